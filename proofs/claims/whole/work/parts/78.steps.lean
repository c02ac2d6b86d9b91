/-! the class's PARSER at work: its state between two tokens (KA), and with one in hand (KT); its loop (PL) (gen78.py) -/
def PLo (x : Nat) (h : AH) (c : Int) : Option (Int32 × AH) := f1_parse_13 (x + 24) (x + 22) (FU - c.toNat) h (I c)
def disp (due : Int) (x : Nat) (h : AH) : Option AH := if due = 0 then f1_takeClause h (x + 24) (x + 22) else if due = 1 then f1_takeSetting h (x + 24) (x + 22) else if due = 2 then f1_takeBehindClause h (x + 24) (x + 22) else if due = 3 then f1_takeValue h (x + 24) (x + 22) else if due = 4 then f1_takeFactStart h (x + 24) (x + 22) else if due = 5 then f1_takeBehindValue h (x + 24) (x + 22) else f1_takeBehindFact h (x + 24) (x + 22)
theorem Ik {q : Int} (h0 : 0 ≤ q) (h1 : q ≤ 40) {k : Int} (k0 : 0 ≤ k) (k1 : k ≤ 40) : (I q = I k) = (q = k) := I_eq (by omega) (by omega) (by omega) (by omega)
section
variable {h h' : AH} {x : Nat} {q1 q2 : Option Nat} {u : Nat → Int} {w : Int → Int} {t : Nat → Int} {T : Int → Int}
theorem PB.stop (P : PB h (x + 24) q1 q2 u w) {c : Int} (c0 : 0 ≤ c) (c1 : c ≤ 401) (d0 : 0 ≤ u 2) (d1 : u 2 ≤ 7) (e0 : 0 ≤ u 8) (e1 : u 8 < 100000) (z : u 8 ≠ 0 ∨ u 2 = 7) : PLo x h c = some (I (u 8), h) := by
  have fu := FU_big
  obtain ⟨f, hf⟩ : ∃ f, FU - c.toNat = f + 1 := ⟨FU - c.toNat - 1, by omega⟩
  have l1 : (I 400 < I c) = (400 < c) := I_lt (by omega) (by omega) (by omega) (by omega)
  have l2 : (I (u 2) = I 7) = (u 2 = 7) := Ik d0 (by omega) (by omega) (by omega)
  have l3 : (I (u 8) = I 0) = (u 8 = 0) := I_eq (by omega) (by omega) (by omega) (by omega)
  unfold PLo
  rw [hf, f1_parse_13]
  simp only [I_lit]
  by_cases a : 400 < c
  · rw [if_pos (by rw [l1]; exact a), P.f8, Option.bind_some]
  · rw [if_neg (by rw [l1]; exact a), P.f2, Option.bind_some]
    by_cases b : u 2 = 7
    · rw [if_pos (by rw [l2]; exact b), P.f8, Option.bind_some]
    · rw [if_neg (by rw [l2]; exact b), P.f8, Option.bind_some, if_neg (by rw [l3]; omega), Option.bind_some]
theorem PB.tok (P : PB h (x + 24) q1 q2 u w) (Q : TP h (x + 22) t T) (a0 : 0 ≤ t 2) (a1 : t 2 ≤ t 1) (a2 : t 1 ≤ 400) (B : ∀ i, 0 ≤ i → i < t 1 → 0 ≤ T i ∧ T i ≤ 255) {c : Int} (c0 : 0 ≤ c) (c1 : c ≤ 400) (d0 : 0 ≤ u 2) (d1 : u 2 ≤ 6) (z : u 8 = 0) : ∃ h1 t', PB h1 (x + 24) q1 q2 u w ∧ TP h1 (x + 22) t' T ∧ Fr (x + 22) (x + 22 + 2) h h1 ∧ t' 1 = t 1 ∧ t' 2 = nx T (t 1) (bl T (t 1) (t 2)) ∧ t' 3 = bl T (t 1) (t 2) ∧ t' 4 = kd T (t 1) (bl T (t 1) (t 2)) ∧ (isd T (t 1) (bl T (t 1) (t 2)) → t' 5 = nvf T (bl T (t 1) (t 2)) (dend T (t 1) (bl T (t 1) (t 2)) - bl T (t 1) (t 2)).toNat ∧ t' 6 = dend T (t 1) (bl T (t 1) (t 2)) - bl T (t 1) (t 2)) ∧ PLo x h c = (disp (u 2) x h1).bind fun h2 => PLo x h2 (c + 1) := by
  have fu := FU_big
  obtain ⟨h1, t1, e1, Q1, F1, r1, r2, r3, r4, r5⟩ := Q.next a0 a1 a2 B
  have P1 := P.fr F1 (by omega)
  refine ⟨h1, t1, P1, Q1, F1, r1, r2, r3, r4, r5, ?_⟩
  obtain ⟨f, hf, hg⟩ : ∃ f, FU - c.toNat = f + 1 ∧ FU - (c + 1).toNat = f := ⟨FU - c.toNat - 1, by omega, by omega⟩
  have l1 : (I 400 < I c) = (400 < c) := I_lt (by omega) (by omega) (by omega) (by omega)
  have l3 : (I (u 8) = I 0) = (u 8 = 0) := I_eq (by omega) (by omega) (by omega) (by omega)
  have d7_ : (I (u 2) = I 7) = (u 2 = 7) := Ik d0 (by omega) (by omega) (by omega)
  have d0_ : (I (u 2) = I 0) = (u 2 = 0) := Ik d0 (by omega) (by omega) (by omega)
  have d1_ : (I (u 2) = I 1) = (u 2 = 1) := Ik d0 (by omega) (by omega) (by omega)
  have d2_ : (I (u 2) = I 2) = (u 2 = 2) := Ik d0 (by omega) (by omega) (by omega)
  have d3_ : (I (u 2) = I 3) = (u 2 = 3) := Ik d0 (by omega) (by omega) (by omega)
  have d4_ : (I (u 2) = I 4) = (u 2 = 4) := Ik d0 (by omega) (by omega) (by omega)
  have d5_ : (I (u 2) = I 5) = (u 2 = 5) := Ik d0 (by omega) (by omega) (by omega)
  have d6_ : (I (u 2) = I 6) = (u 2 = 6) := Ik d0 (by omega) (by omega) (by omega)
  unfold PLo disp
  rw [hf, hg, f1_parse_13]
  simp only [I_lit, I_add]
  rw [if_neg (by rw [l1]; omega), P.f2, Option.bind_some, if_neg (by rw [d7_]; omega), P.f8, Option.bind_some, if_pos (by rw [l3]; exact z), e1, Option.bind_some, P1.f2, Option.bind_some]
  by_cases y0 : u 2 = 0
  · rw [if_pos (by rw [d0_]; exact y0), if_pos y0]; rfl
  rw [if_neg (by rw [d0_]; exact y0), if_neg y0]
  by_cases y1 : u 2 = 1
  · rw [if_pos (by rw [d1_]; exact y1), if_pos y1]; rfl
  rw [if_neg (by rw [d1_]; exact y1), if_neg y1]
  by_cases y2 : u 2 = 2
  · rw [if_pos (by rw [d2_]; exact y2), if_pos y2]; rfl
  rw [if_neg (by rw [d2_]; exact y2), if_neg y2]
  by_cases y3 : u 2 = 3
  · rw [if_pos (by rw [d3_]; exact y3), if_pos y3]; rfl
  rw [if_neg (by rw [d3_]; exact y3), if_neg y3]
  by_cases y4 : u 2 = 4
  · rw [if_pos (by rw [d4_]; exact y4), if_pos y4]; rfl
  rw [if_neg (by rw [d4_]; exact y4), if_neg y4]
  by_cases y5 : u 2 = 5
  · rw [if_pos (by rw [d5_]; exact y5), if_pos y5]; rfl
  rw [if_neg (by rw [d5_]; exact y5), if_neg y5, if_pos (by rw [d6_]; omega)]
  rfl
theorem PB.fail (P : PB h (x + 24) q1 q2 u w) (Q : TP h (x + 22) t T) {k : Int} : ∃ h', f1_fail h (x + 24) (x + 22) (I k) = some h' ∧ PB h' (x + 24) q1 q2 (us u 8 (1 + 8 * t 3 + k)) w ∧ Fr (x + 24) (x + 24 + 2) h h' := by
  obtain ⟨h1, e1, P1, F1⟩ := P.s8 (1 + 8 * t 3 + k)
  refine ⟨h1, ?_, P1, F1⟩
  rw [f1_fail, P.o, Option.bind_some, Q.f3, Option.bind_some]
  simp only [I_lit]
  rw [I_mul, I_add, I_add, e1, Option.bind_some]
end
def KA (h : AH) (x r : Nat) (T : Int → Int) (n c s due sm cl nl once it : Int) (W : List Int) (k0 k1 sz : Int) (cd : Int → Int) : Prop := ∃ u w t ru sk, KX h x r u w t T ru cd sk ∧ (t 1 = n ∧ bl T n (t 2) = s ∧ 0 ≤ c ∧ c ≤ t 2 ∧ t 2 ≤ n) ∧ (u 2 = due ∧ u 3 = sm ∧ u 4 = cl ∧ u 5 = nl ∧ u 6 = once ∧ u 7 = it ∧ u 8 = 0) ∧ (u 10 = (W.length : Int) ∧ hi w W ∧ u 11 = dep W ∧ u 12 = bra W) ∧ (ru 0 = k0 ∧ ru 1 = k1 ∧ ru 3 = sz ∧ 0 ≤ sz ∧ sz + W.length + 1 ≤ c)
def KT (h : AH) (x r : Nat) (T : Int → Int) (n c s due sm cl nl once it : Int) (W : List Int) (k0 k1 sz : Int) (cd : Int → Int) : Prop := ∃ u w t ru sk, KX h x r u w t T ru cd sk ∧ (t 1 = n ∧ t 2 = nx T n s ∧ t 3 = s ∧ t 4 = kd T n s ∧ (isd T n s → t 5 = nvf T s (dend T n s - s).toNat ∧ t 6 = dend T n s - s) ∧ 0 ≤ c ∧ c ≤ s ∧ s ≤ n) ∧ (u 2 = due ∧ u 3 = sm ∧ u 4 = cl ∧ u 5 = nl ∧ u 6 = once ∧ u 7 = it ∧ u 8 = 0) ∧ (u 10 = (W.length : Int) ∧ hi w W ∧ u 11 = dep W ∧ u 12 = bra W) ∧ (ru 0 = k0 ∧ ru 1 = k1 ∧ ru 3 = sz ∧ 0 ≤ sz ∧ sz + W.length + 1 ≤ c)
/-- between two clauses; due 7: all is read -/
def KA0 (h : AH) (x r : Nat) (T : Int → Int) (n c s due cl nl once it : Int) (k0 k1 sz : Int) (cd : Int → Int) : Prop := ∃ u w t ru sk, KX h x r u w t T ru cd sk ∧ (t 1 = n ∧ bl T n (t 2) = s ∧ 0 ≤ c ∧ c ≤ t 2 ∧ t 2 ≤ n) ∧ (u 2 = due ∧ u 4 = cl ∧ u 5 = nl ∧ u 6 = once ∧ u 7 = it ∧ u 8 = 0) ∧ (ru 0 = k0 ∧ ru 1 = k1 ∧ ru 3 = sz ∧ 0 ≤ sz ∧ sz ≤ c)
/-- all is read -/
def KZ (h : AH) (x r : Nat) (T : Int → Int) (n k0 k1 sz : Int) (cd : Int → Int) : Prop := ∃ u w t ru sk, KX h x r u w t T ru cd sk ∧ t 1 = n ∧ ru 0 = k0 ∧ ru 1 = k1 ∧ ru 3 = sz
/-- a FAULT was found -/
def KF (h : AH) (x r : Nat) (T : Int → Int) (n : Int) : Prop := ∃ u w t ru cd sk, KX h x r u w t T ru cd sk ∧ t 1 = n
section
variable {h : AH} {x r : Nat} {T : Int → Int} {n c s due sm cl nl once it : Int} {W : List Int} {k0 k1 sz : Int} {cd : Int → Int}
theorem KA.tok (K : KA h x r T n c s due sm cl nl once it W k0 k1 sz cd) (hn : n ≤ 400) (B : ∀ i, 0 ≤ i → i < n → 0 ≤ T i ∧ T i ≤ 255) (d0 : 0 ≤ due) (d1 : due ≤ 6) : ∃ h1, KT h1 x r T n c s due sm cl nl once it W k0 k1 sz cd ∧ Fc x r h h1 ∧ PLo x h c = (disp due x h1).bind fun h2 => PLo x h2 (c + 1) := by
  obtain ⟨u, w, t, ru, sk, K, ⟨t1, t2, t3, t4, t5⟩, ⟨u2, u3, u4, u5, u6, u7, u8⟩, q, y⟩ := K
  subst t1 u2
  obtain ⟨h1, t', P1, Q1, F1, r1, r2, r3, r4, r5, e⟩ := PB.tok (c := c) K.1 K.2.1 (by omega) t5 hn B t3 (by omega) d0 d1 u8
  have K1 := K.ofT Q1 F1
  rw [t2] at r2 r3 r4 r5
  have br := bl_rng (T := T) t5
  rw [t2] at br
  exact ⟨h1, ⟨u, w, t', ru, sk, K1.1, ⟨r1, r2, r3, r4, r5, t3, by omega, by omega⟩, ⟨rfl, u3, u4, u5, u6, u7, u8⟩, q, y⟩, K1.2, e⟩
/-- a FAULT with the token in hand -/
theorem KT.fail (K : KT h x r T n c s due sm cl nl once it W k0 k1 sz cd) (hn : n ≤ 400) (B : ∀ i, 0 ≤ i → i < n → 0 ≤ T i ∧ T i ≤ 255) (d0 : 0 ≤ due) (d1 : due ≤ 6) {k : Int} (k0 : 0 ≤ k) (k1 : k ≤ 7) : ∃ h', f1_fail h (x + 24) (x + 22) (I k) = some h' ∧ PLo x h' (c + 1) = some (I (1 + 8 * s + k), h') ∧ KF h' x r T n ∧ Fc x r h h' := by
  obtain ⟨u, w, t, ru, sk, K, ⟨t1, t2, t3, t4, t5, t6, t7, t8⟩, ⟨u2, u3, u4, u5, u6, u7, u8⟩, q, y⟩ := K
  obtain ⟨h1, e1, P1, F1⟩ := K.1.fail K.2.1 (k := k)
  have K1 := K.ofP P1 F1
  rw [t3] at P1
  have st := P1.stop (c := c + 1) (by omega) (by omega) (by rw [us_ne (by omega)]; omega) (by rw [us_ne (by omega)]; omega) (by rw [us_eq]; omega) (by rw [us_eq]; omega) (.inl (by rw [us_eq]; omega))
  rw [us_eq] at st
  exact ⟨h1, e1, st, ⟨_, _, t, ru, cd, sk, K1.1, t1⟩, K1.2⟩
theorem KT.lk (K : KT h x r T n c s due sm cl nl once it W k0 k1 sz cd) : fI 6 4 h (x + 22) = some (I (kd T n s)) := by
  obtain ⟨u, w, t, ru, sk, K, ⟨t1, t2, t3, t4, t5, t6, t7, t8⟩, -⟩ := K
  rw [K.2.1.f4, t4]
theorem KT.o (K : KT h x r T n c s due sm cl nl once it W k0 k1 sz cd) : ∃ fs, hObj 1 h (x + 24) = some fs := by
  obtain ⟨u, w, t, ru, sk, K, -⟩ := K
  exact ⟨_, K.1.o⟩
theorem KT.lsum (K : KT h x r T n c s due sm cl nl once it W k0 k1 sz cd) : fI 1 3 h (x + 24) = some (I sm) := by
  obtain ⟨u, w, t, ru, sk, K, -, ⟨u2, u3, -⟩, -⟩ := K
  rw [K.1.f3, u3]
theorem KT.lcl (K : KT h x r T n c s due sm cl nl once it W k0 k1 sz cd) : fI 1 4 h (x + 24) = some (I cl) := by
  obtain ⟨u, w, t, ru, sk, K, -, ⟨u2, u3, u4, -⟩, -⟩ := K
  rw [K.1.f4, u4]
theorem KT.lit (K : KT h x r T n c s due sm cl nl once it W k0 k1 sz cd) : fI 1 7 h (x + 24) = some (I it) := by
  obtain ⟨u, w, t, ru, sk, K, -, ⟨u2, u3, u4, u5, u6, u7, -⟩, -⟩ := K
  rw [K.1.f7, u7]
theorem KT.ldep (K : KT h x r T n c s due sm cl nl once it W k0 k1 sz cd) : fI 1 11 h (x + 24) = some (I (dep W)) := by
  obtain ⟨u, w, t, ru, sk, K, -, -, ⟨-, -, u11, -⟩, -⟩ := K
  rw [K.1.f11, u11]
theorem KT.lbra (K : KT h x r T n c s due sm cl nl once it W k0 k1 sz cd) : fI 1 12 h (x + 24) = some (I (bra W)) := by
  obtain ⟨u, w, t, ru, sk, K, -, -, ⟨-, -, -, u12⟩, -⟩ := K
  rw [K.1.f12, u12]
theorem KT.len (K : KT h x r T n c s due sm cl nl once it W k0 k1 sz cd) (hn : n ≤ 400) : (W.length : Int) < 400 ∧ 0 ≤ sz ∧ sz + W.length + 1 ≤ c ∧ 0 ≤ c ∧ c ≤ s ∧ s ≤ n := by
  obtain ⟨u, w, t, ru, sk, K, ⟨t1, t2, t3, t4, t5, t6, t7, t8⟩, -, -, ⟨-, -, -, y3, y4⟩⟩ := K
  exact ⟨by omega, y3, y4, t6, t7, t8⟩
/-- one field of the parser's is written, the token still in hand -/
theorem KT.put (K : KT h x r T n c s due sm cl nl once it W k0 k1 sz cd) (v : Int) : (∃ h', fS 1 2 h (x + 24) (.int (I v)) = some h' ∧ KT h' x r T n c s v sm cl nl once it W k0 k1 sz cd ∧ Fc x r h h') ∧ (∃ h', fS 1 3 h (x + 24) (.int (I v)) = some h' ∧ KT h' x r T n c s due v cl nl once it W k0 k1 sz cd ∧ Fc x r h h') ∧ (∃ h', fS 1 4 h (x + 24) (.int (I v)) = some h' ∧ KT h' x r T n c s due sm v nl once it W k0 k1 sz cd ∧ Fc x r h h') ∧ (∃ h', fS 1 7 h (x + 24) (.int (I v)) = some h' ∧ KT h' x r T n c s due sm cl nl once v W k0 k1 sz cd ∧ Fc x r h h') := by
  obtain ⟨u, w, t, ru, sk, K, tt, ⟨u2, u3, u4, u5, u6, u7, u8⟩, ⟨q1, q2, q3, q4⟩, y⟩ := K
  refine ⟨?_, ?_, ?_, ?_⟩
  · obtain ⟨h1, e1, P1, F1⟩ := K.1.s2 v
    have K1 := K.ofP P1 F1
    exact ⟨h1, e1, ⟨_, w, t, ru, sk, K1.1, tt, ⟨us_eq, u3, u4, u5, u6, u7, u8⟩, ⟨q1, q2, q3, q4⟩, y⟩, K1.2⟩
  · obtain ⟨h1, e1, P1, F1⟩ := K.1.s3 v
    have K1 := K.ofP P1 F1
    exact ⟨h1, e1, ⟨_, w, t, ru, sk, K1.1, tt, ⟨u2, us_eq, u4, u5, u6, u7, u8⟩, ⟨q1, q2, q3, q4⟩, y⟩, K1.2⟩
  · obtain ⟨h1, e1, P1, F1⟩ := K.1.s4 v
    have K1 := K.ofP P1 F1
    exact ⟨h1, e1, ⟨_, w, t, ru, sk, K1.1, tt, ⟨u2, u3, us_eq, u5, u6, u7, u8⟩, ⟨q1, q2, q3, q4⟩, y⟩, K1.2⟩
  · obtain ⟨h1, e1, P1, F1⟩ := K.1.s7 v
    have K1 := K.ofP P1 F1
    exact ⟨h1, e1, ⟨_, w, t, ru, sk, K1.1, tt, ⟨u2, u3, u4, u5, u6, us_eq, u8⟩, ⟨q1, q2, q3, q4⟩, y⟩, K1.2⟩
/-- the signs that wait go to the code, down to a closeness -/
theorem KT.down (hn : n ≤ 400) {l : Int} (l0 : 1 ≤ l) (l1 : l ≤ 6) {Z Y : List Int} (K : KT h x r T n c s due sm cl nl once it (Z ++ Y) k0 k1 sz cd) (hZ : ∀ a ∈ Z, 0 ≤ a ∧ a ≤ 40 ∧ l ≤ clos a) (hY : ∀ b B', Y = b :: B' → clos b < l) (rY : ∀ b ∈ Y, 0 ≤ b ∧ b ≤ 40) : ∃ h', f1_emitDownTo h (x + 24) (I l) = some h' ∧ KT h' x r T n c s due sm cl nl once it Y k0 k1 (sz + Z.length) (apd cd sz Z) ∧ Fc x r h h' := by
  have fu := FU_big
  have ln := K.len hn
  obtain ⟨u, w, t, ru, sk, K, tt, ⟨u2, u3, u4, u5, u6, u7, u8⟩, ⟨q1, q2, q3, q4⟩, ⟨y0, y1, y2, y3, y4⟩⟩ := K
  have la : ((Z ++ Y).length : Int) = (Z.length : Int) + Y.length := by rw [List.length_append]; omega
  obtain ⟨h1, u1, ru1, e1, K1, U1, V1, D1, R1, S1, H1, F1⟩ := KX.down (by omega) l1 hY rY Z FU h u w ru cd sz K hZ q1 q2 y2 y3 (by omega) (by omega)
  have z0 : ∀ Z : List Int, (∀ a ∈ Z, 0 ≤ a ∧ a ≤ 40 ∧ l ≤ clos a) → dep (Z ++ Y) - nots Z = dep Y ∧ bra (Z ++ Y) = bra Y := fun Z => by
    induction Z with
    | nil => intro _; simp [nots]
    | cons a Z ih =>
      intro hz
      have i := ih (fun b hb => hz b (by simp [hb]))
      have az := hz a (by simp)
      have a30 : a ≠ 30 := by
        intro e
        subst e
        have : clos 30 = 0 := rfl
        omega
      simp only [List.cons_append, dep, nots, bra]
      rw [if_neg a30]
      by_cases c : a = 20
      · rw [if_pos (.inl c), if_pos c]; omega
      · rw [if_neg (by omega), if_neg c]; omega
  have z1 := z0 Z hZ
  refine ⟨h1, ?_, ⟨u1, w, t, ru1, sk, K1, tt, ⟨by rw [U1 2 (by omega) (by omega)]; exact u2, by rw [U1 3 (by omega) (by omega)]; exact u3, by rw [U1 4 (by omega) (by omega)]; exact u4, by rw [U1 5 (by omega) (by omega)]; exact u5, by rw [U1 6 (by omega) (by omega)]; exact u6, by rw [U1 7 (by omega) (by omega)]; exact u7, by rw [U1 8 (by omega) (by omega)]; exact u8⟩, ⟨V1, H1, by rw [D1, q3]; exact z1.1, by rw [U1 12 (by omega) (by omega), q4]; exact z1.2⟩, ⟨by rw [R1 0 (by omega)]; exact y0, by rw [R1 1 (by omega)]; exact y1, S1, by omega, by omega⟩⟩, F1⟩
  rw [f1_emitDownTo, K.1.o, Option.bind_some, e1]
/-- a token is behind him -/
theorem KT.go (K : KT h x r T n (c - 1) s due sm cl nl once it W k0 k1 sz cd) (hn : n ≤ 400) (B : ∀ i, 0 ≤ i → i < n → 0 ≤ T i ∧ T i ≤ 255) (k33 : kd T n s ≠ 33) : KA h x r T n c (bl T n (nx T n s)) due sm cl nl once it W k0 k1 sz cd := by
  obtain ⟨u, w, t, ru, sk, K, ⟨t1, t2, t3, t4, t5, t6, t7, t8⟩, uu, q, ⟨y0, y1, y2, y3, y4⟩⟩ := K
  have nr := nx_rng (T := T) (n := n) (s := s) B (by omega) t8 hn
  have n2 := nr.2.2 k33
  exact ⟨u, w, t, ru, sk, K, ⟨t1, by rw [t2], by omega, by omega, by omega⟩, uu, q, ⟨y0, y1, y2, y3, by omega⟩⟩
/-- one code more, with the token in hand -/
theorem KT.emit (K : KT h x r T n c s due sm cl nl once it W k0 k1 sz cd) (hn : n ≤ 400) (e : Int) (B : ∀ i, 0 ≤ i → i < n → 0 ≤ T i ∧ T i ≤ 255) (k33 : kd T n s ≠ 33) : ∃ h', f1_emit h (x + 24) (I e) = some h' ∧ (∀ v : Int, ∃ h2, fS 1 2 h' (x + 24) (.int (I v)) = some h2 ∧ KA h2 x r T n (c + 1) (bl T n (nx T n s)) v sm cl nl once it W k0 k1 (sz + 1) (up cd sz e) ∧ Fc x r h h2) := by
  have ln := K.len hn
  obtain ⟨u, w, t, ru, sk, K, ⟨t1, t2, t3, t4, t5, t6, t7, t8⟩, ⟨u2, u3, u4, u5, u6, u7, u8⟩, ⟨q1, q2, q3, q4⟩, ⟨y0, y1, y2, y3, y4⟩⟩ := K
  obtain ⟨h1, e1, K1, F1⟩ := K.emit e y2 y3 (by omega)
  have nr := nx_rng (T := T) (n := n) (s := s) B (by omega) t8 hn
  have n2 := nr.2.2 k33
  refine ⟨h1, e1, fun v => ?_⟩
  obtain ⟨h2, e2, P2, F2⟩ := K1.1.s2 v
  have K2 := K1.ofP P2 F2
  exact ⟨h2, e2, ⟨_, w, t, _, sk, K2.1, ⟨t1, by rw [t2], by omega, by omega, by omega⟩, ⟨us_eq, u3, u4, u5, u6, u7, u8⟩, ⟨q1, q2, q3, q4⟩, ⟨y0, y1, us_eq, by omega, by omega⟩⟩, F1.trans K2.2⟩
/-- one sign more that waits -/
theorem KT.off (K : KT h x r T n c s due sm cl nl once it W k0 k1 sz cd) (hn : n ≤ 400) (e : Int) (B : ∀ i, 0 ≤ i → i < n → 0 ≤ T i ∧ T i ≤ 255) (k33 : kd T n s ≠ 33) (k20 : e ≠ 20) (k30 : e ≠ 30) : ∃ h', f1_putOff h (x + 24) (I e) = some h' ∧ Fc x r h h' ∧ ∀ v sm', ∃ h2 h3, fS 1 3 h' (x + 24) (.int (I sm')) = some h2 ∧ fS 1 2 h2 (x + 24) (.int (I v)) = some h3 ∧ KA h3 x r T n (c + 1) (bl T n (nx T n s)) v sm' cl nl once it (e :: W) k0 k1 sz cd ∧ Fc x r h h3 ∧ ∃ h4, fS 1 2 h' (x + 24) (.int (I v)) = some h4 ∧ KA h4 x r T n (c + 1) (bl T n (nx T n s)) v sm cl nl once it (e :: W) k0 k1 sz cd ∧ Fc x r h h4 := by
  have ln := K.len hn
  obtain ⟨u, w, t, ru, sk, K, ⟨t1, t2, t3, t4, t5, t6, t7, t8⟩, ⟨u2, u3, u4, u5, u6, u7, u8⟩, ⟨q1, q2, q3, q4⟩, ⟨y0, y1, y2, y3, y4⟩⟩ := K
  obtain ⟨h1, e1, K1, H1, F1⟩ := K.putOff (a := e) q1 q2 ln.1
  have nr := nx_rng (T := T) (n := n) (s := s) B (by omega) t8 hn
  have n2 := nr.2.2 k33
  have q3' : u 11 = dep (e :: W) := by rw [dep_c, if_neg (by omega)]; omega
  have q4' : u 12 = bra (e :: W) := by rw [bra_c, if_neg k30]; omega
  have y4' : sz + ((e :: W).length : Int) + 1 ≤ c + 1 := by rw [List.length_cons]; omega
  refine ⟨h1, e1, F1, fun v sm' => ?_⟩
  obtain ⟨h2, e2, P2, F2⟩ := K1.1.s3 sm'
  have K2 := K1.ofP P2 F2
  obtain ⟨h3, e3, P3, F3⟩ := K2.1.1.s2 v
  have K3 := K2.1.ofP P3 F3
  obtain ⟨h4, e4, P4, F4⟩ := K1.1.s2 v
  have K4 := K1.ofP P4 F4
  exact ⟨h2, h3, e2, e3, ⟨_, _, t, ru, sk, K3.1, ⟨t1, by rw [t2], by omega, by omega, by omega⟩, ⟨rfl, rfl, u4, u5, u6, u7, u8⟩, ⟨rfl, H1, q3', q4'⟩, ⟨y0, y1, y2, y3, y4'⟩⟩, (F1.trans K2.2).trans K3.2, h4, e4, ⟨_, _, t, ru, sk, K4.1, ⟨t1, by rw [t2], by omega, by omega, by omega⟩, ⟨us_eq, u3, u4, u5, u6, u7, u8⟩, ⟨rfl, H1, q3', q4'⟩, ⟨y0, y1, y2, y3, y4'⟩⟩, F1.trans K4.2⟩
end
