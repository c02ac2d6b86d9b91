/-! the class's MAKER between CLAUSES, token by token -/
def Fm (x r : Nat) (h h' : AH) : Prop := h'.1 = h.1 ∧ ∀ a, ¬ ((x + 22 ≤ a ∧ a < x + 26) ∨ (r ≤ a ∧ a < r + 2)) → h'.2 a = h.2 a
theorem Fm.refl (x r : Nat) (h : AH) : Fm x r h h := ⟨rfl, fun _ _ => rfl⟩
theorem Fm.trans {x r : Nat} {h h1 h2 : AH} (a : Fm x r h h1) (b : Fm x r h1 h2) : Fm x r h h2 := ⟨b.1.trans a.1, fun q hq => (b.2 q hq).trans (a.2 q hq)⟩
theorem Fr.m {x r lo hi : Nat} {h h1 : AH} (a : Fr lo hi h h1) (d : (x + 22 ≤ lo ∧ hi ≤ x + 26) ∨ (r ≤ lo ∧ hi ≤ r + 2)) : Fm x r h h1 := ⟨a.1, fun q hq => a.2 q (by omega)⟩
def KM (h : AH) (x r : Nat) (u : Nat → Int) (w : Int → Int) (t : Nat → Int) (T : Int → Int) (mu : Nat → Int) (ms : Int → Int) : Prop := PB h (x + 24) none (some r) u w ∧ TP h (x + 22) t T ∧ MK h r mu ms ∧ x + 35 ≤ r
def KM0 (h : AH) (x r : Nat) (T : Int → Int) (n c s due cl nl once : Int) (mu : Nat → Int) (ms : Int → Int) : Prop := ∃ u w t, KM h x r u w t T mu ms ∧ (t 1 = n ∧ bl T n (t 2) = s ∧ 0 ≤ c ∧ c ≤ t 2 ∧ t 2 ≤ n) ∧ (u 2 = due ∧ u 4 = cl ∧ u 5 = nl ∧ u 6 = once ∧ u 8 = 0)
def KZm (h : AH) (x r : Nat) (T : Int → Int) (n : Int) (mu : Nat → Int) (ms : Int → Int) : Prop := ∃ u w t, KM h x r u w t T mu ms ∧ t 1 = n
def KFm (h : AH) (x r : Nat) (T : Int → Int) (n : Int) : Prop := ∃ u w t mu ms, KM h x r u w t T mu ms ∧ t 1 = n
def FOm (x r : Nat) (T : Int → Int) (n c s : Int) (h : AH) (f : Option AH) (k : Int) : Prop := ∃ h', f = some h' ∧ PLo x h' (c + 1) = some (I (1 + 8 * s + k), h') ∧ KFm h' x r T n ∧ Fm x r h h'
def rom (a b : Bool) : Int := (if a = true then 8192 else 0) + (if b = true then 16384 else 0)
theorem rom_rng (a b : Bool) : 0 ≤ rom a b ∧ rom a b ≤ 24576 := by cases a <;> cases b <;> decide
theorem rom_bit (a b : Bool) : (bi (rom a b) 13 = 1 ↔ a = true) ∧ (bi (rom a b) 14 = 1 ↔ b = true) := by cases a <;> cases b <;> decide
theorem rom_or (a b : Bool) : I (rom a b) ||| (I 1 <<< (I 13 &&& I 31)) = I (rom true b) ∧ I (rom a b) ||| (I 1 <<< (I 14 &&& I 31)) = I (rom a true) := by cases a <;> cases b <;> decide
/-- what he is set to by a NUMBER behind a word -/
def msu (cl z : Int) (mu : Nat → Int) : Nat → Int := if cl = 13 then us mu 0 z else if cl = 14 then us mu 1 z else if cl = 16 then us mu 2 (ori (mu 2) (2 ^ z.toNat)) else us mu 4 (mu 4 + 1)
def mss (cl z : Int) (mu : Nat → Int) (ms : Int → Int) : Int → Int := if cl = 15 then up ms (mu 4) z else ms
def mlo (cl : Int) : Int := if cl = 13 then 1 else 0
def mhi (cl : Int) : Int := if cl = 13 then 99 else if cl = 14 then 1000 else if cl = 16 then 9 else 5
section
variable {h h' : AH} {x r : Nat} {u : Nat → Int} {w : Int → Int} {t : Nat → Int} {T : Int → Int} {mu : Nat → Int} {ms : Int → Int} {n c s due cl nl once : Int} {a b : Bool}
theorem KM.ofP (K : KM h x r u w t T mu ms) {u' : Nat → Int} {w' : Int → Int} (P : PB h' (x + 24) none (some r) u' w') (F : Fr (x + 24) (x + 24 + 2) h h') : KM h' x r u' w' t T mu ms ∧ Fm x r h h' := ⟨⟨P, K.2.1.fr F (by omega), K.2.2.1.fr F (by have := K.2.2.2; omega), K.2.2.2⟩, F.m (by omega)⟩
theorem KM.ofT (K : KM h x r u w t T mu ms) {t' : Nat → Int} (P : TP h' (x + 22) t' T) (F : Fr (x + 22) (x + 22 + 2) h h') : KM h' x r u w t' T mu ms ∧ Fm x r h h' := ⟨⟨K.1.fr F (by omega), P, K.2.2.1.fr F (by have := K.2.2.2; omega), K.2.2.2⟩, F.m (by omega)⟩
theorem KM.ofM (K : KM h x r u w t T mu ms) {mu' : Nat → Int} {ms' : Int → Int} (D : MK h' r mu' ms') (F : Fr r (r + 2) h h') : KM h' x r u w t T mu' ms' ∧ Fm x r h h' := ⟨⟨K.1.fr F (by have := K.2.2.2; omega), K.2.1.fr F (by have := K.2.2.2; omega), D, K.2.2.2⟩, F.m (by omega)⟩
theorem KM.fo (K : KM h x r u w t T mu ms) (t1 : t 1 = n) (t3 : t 3 = s) (d0 : 0 ≤ u 2) (d1 : u 2 ≤ 7) (c0 : 0 ≤ c) (c1 : c ≤ 400) (s0 : 0 ≤ s) (s1 : s ≤ 400) {k : Int} (kk : 0 ≤ k ∧ k ≤ 7) : FOm x r T n c s h ((f1_fail h (x + 24) (x + 22) (I k)).bind fun y => some y) k := by
  obtain ⟨h1, e1, P1, F1⟩ := K.1.fail K.2.1 (k := k)
  have K1 := K.ofP P1 F1
  rw [t3] at P1
  have st := P1.stop (c := c + 1) (by omega) (by omega) (by rw [us_ne (by omega)]; omega) (by rw [us_ne (by omega)]; omega) (by rw [us_eq]; omega) (by rw [us_eq]; omega) (.inl (by rw [us_eq]; omega))
  rw [us_eq] at st
  exact ⟨h1, by rw [e1, Option.bind_some], st, ⟨_, _, t, mu, ms, K1.1, t1⟩, K1.2⟩
def mword (k : Int) : Prop := k = 13 ∨ k = 14 ∨ k = 15 ∨ k = 16
theorem KM0.first (K : KM0 h x r T n c s 0 cl nl (rom a b) mu ms) (hn : n ≤ 400) (B : ∀ i, 0 ≤ i → i < n → 0 ≤ T i ∧ T i ≤ 255) (n0 : 0 ≤ nl) (n1 : nl ≤ 12) : ∃ h1, Fm x r h h1 ∧ PLo x h c = (disp 0 x h1).bind (fun h2 => PLo x h2 (c + 1)) ∧ (¬ mword (kd T n s) → FOm x r T n c s h1 (disp 0 x h1) 0) ∧ (mword (kd T n s) → (nl = 12 ∨ (kd T n s = 13 ∧ a = true) ∨ (kd T n s = 14 ∧ b = true)) → FOm x r T n c s h1 (disp 0 x h1) 4) ∧ (mword (kd T n s) → nl < 12 → (kd T n s = 13 → a = false) → (kd T n s = 14 → b = false) → ∃ h2, disp 0 x h1 = some h2 ∧ KM0 h2 x r T n (c + 1) (bl T n (nx T n s)) 1 (kd T n s) (nl + 1) (if kd T n s = 13 then rom true b else if kd T n s = 14 then rom a true else rom a b) mu ms ∧ Fm x r h1 h2) := by
  obtain ⟨u, w, t, K, ⟨t1, t2, t3, t4, t5⟩, ⟨u2, u4, u5, u6, u8⟩⟩ := K
  have kr := kd_rng T n s
  have rr := rom_rng a b
  have rb := rom_bit a b
  have br := bl_rng (T := T) t5
  rw [t2] at br
  have nr := nx_rng B (s := s) (by omega) br.2 hn
  obtain ⟨h1, t', P1, Q1, F1, r1, r2, r3, r4, r5, e⟩ := PB.tok (c := c) K.1 K.2.1 (by omega) (by omega) (by omega) (by rw [t1]; exact B) t3 (by omega) (by omega) (by omega) u8
  have K1 := K.ofT Q1 F1
  rw [t1, t2] at r2 r3 r4
  rw [u2] at e
  obtain ⟨o', ho⟩ := or_ex (I (u 6) ||| (I 1 <<< (I (kd T n s) &&& I 31)))
  obtain ⟨h2, P2, F2, X, Y, Z⟩ := P1.takeClause Q1 r4 kr.1 (by omega) (by omega) (by omega) (bg := decide (kd T n s = 13 ∨ kd T n s = 14 ∨ kd T n s = 15 ∨ kd T n s = 16)) (bt := decide (bi (u 6) (kd T n s) = 1)) (o' := o') (fun h' P' => P'.bgM kr.1 (by omega)) (fun _ _ h' => by rw [u6]; exact hasBit_of rr.1 (by omega) kr.1 (by omega)) ho
  have K2 := K1.1.ofP P2 F2
  have ed : disp 0 x h1 = f1_takeClause h1 (x + 24) (x + 22) := by simp [disp]
  have fo : ∀ k : Int, 0 ≤ k ∧ k ≤ 7 → FOm x r T n c s h1 ((f1_fail h2 (x + 24) (x + 22) (I k)).bind fun y => some y) k := fun k kk => by
    obtain ⟨h3, a1, a2, a3, a4⟩ := K2.1.fo (n := n) (s := s) (c := c) (by rw [r1]; exact t1) r3 (by rw [us_ne (by omega)]; omega) (by rw [us_ne (by omega)]; omega) t3 (by omega) (by omega) (by omega) kk
    exact ⟨h3, a1, a2, a3, K2.2.trans a4⟩
  refine ⟨h1, K1.2, e, fun q => ?_, fun q p => ?_, fun q p za zb => ?_⟩
  · rw [ed, X (decide_eq_false q)]; exact fo 0 (by omega)
  · rw [ed, Y (decide_eq_true q) (by
      rcases p with p | ⟨p, p'⟩ | ⟨p, p'⟩
      · exact .inl (by omega)
      · exact .inr ⟨by omega, by rw [p, u6]; exact decide_eq_true (rb.1.mpr p')⟩
      · exact .inr ⟨by omega, by rw [p, u6]; exact decide_eq_true (rb.2.mpr p')⟩)]
    exact fo 4 (by omega)
  · have n2 := nr.2.2 (by rcases q with q | q | q | q <;> omega)
    obtain ⟨h3, u3, a1, P3, F3, a2, a3, a4, a5, a6, a7, a8, a10, a11, a12⟩ := Z (decide_eq_true q) (by omega) (fun pp => by
      have bt := of_decide_eq_true pp.2
      rcases q with q | q | q | q
      · rw [q, u6] at bt; have := rb.1.mp bt; rw [za q] at this; cases this
      · rw [q, u6] at bt; have := rb.2.mp bt; rw [zb q] at this; cases this
      · omega
      · omega)
    rw [if_neg (by rcases q with q | q | q | q <;> omega)] at a2
    have oo' : ∃ o2, I (u3 6) = I o2 ∧ o2 = (if kd T n s = 13 then rom true b else if kd T n s = 14 then rom a true else rom a b) := by
      refine ⟨_, ?_, rfl⟩
      rcases q with q | q | q | q
      · rw [if_pos (by omega)] at a6
        rw [if_pos q, a6, ← ho, q, u6]; exact (rom_or a b).1
      · rw [if_pos (by omega)] at a6
        rw [if_neg (by omega), if_pos q, a6, ← ho, q, u6]; exact (rom_or a b).2
      · rw [if_neg (by omega)] at a6
        rw [if_neg (by omega), if_neg (by omega), a6, u6]
      · rw [if_neg (by omega)] at a6
        rw [if_neg (by omega), if_neg (by omega), a6, u6]
    obtain ⟨o2, eo, eo2⟩ := oo'
    rw [← eo2]
    have same : PB h3 (x + 24) none (some r) (us u3 6 o2) w := by
      refine ⟨?_, P3.2⟩
      have p := P3.1
      unfold PBL at p ⊢
      rw [eo] at p
      exact p
    have K4 := K1.1.ofP same F3
    exact ⟨h3, by rw [ed]; exact a1, ⟨_, w, t', K4.1, ⟨by rw [r1]; exact t1, by rw [r2], by omega, by omega, by omega⟩, ⟨by rw [us_ne (by omega)]; exact a2, by rw [us_ne (by omega)]; exact a4, by rw [us_ne (by omega), a5, u5], us_eq, by rw [us_ne (by omega), a8, u8]⟩⟩, K4.2⟩
theorem MK.setF (K : MK h r mu ms) {k : Nat} {v : Value} {mu' : Nat → Int} (e : [Value.int (I (mu 0)), .int (I (mu 1)), .int (I (mu 2)), .ref (r + 1), .int (I (mu 4))].set k v = [.int (I (mu' 0)), .int (I (mu' 1)), .int (I (mu' 2)), .ref (r + 1), .int (I (mu' 4))]) (hk : k < 5) : ∃ h', fS 0 k h r v = some h' ∧ MK h' r mu' ms ∧ Fr r (r + 2) h h' := by
  obtain ⟨h', e1, O1, F1⟩ := K.1.set k v hk
  rw [e] at O1
  exact ⟨h', e1, ⟨O1, K.2.at (F1.2 _ (by omega))⟩, F1.mono (by omega) (by omega)⟩
theorem KM.set (K : KM h x r u w t T mu ms) {z : Int} (u4 : u 4 = cl) (c12 : mword cl) (z0 : 0 ≤ z) (z1 : z < 100000) (m20 : 0 ≤ mu 2) (m21 : mu 2 ≤ 1023) (m40 : 0 ≤ mu 4) (m41 : mu 4 < 12) : (mlo cl ≤ z ∧ z ≤ mhi cl → ∃ h', f1_set h (x + 24) (I z) = some (true, h') ∧ KM h' x r u w t T (msu cl z mu) (mss cl z mu ms) ∧ Fm x r h h') ∧ (¬ (mlo cl ≤ z ∧ z ≤ mhi cl) → f1_set h (x + 24) (I z) = some (false, h)) := by
  have cr : 13 ≤ cl ∧ cl ≤ 16 := by rcases c12 with q | q | q | q <;> omega
  have l13 : (I cl = I 13) = (cl = 13) := Ik (by omega) (by omega) (by omega) (by omega)
  have l14 : (I cl = I 14) = (cl = 14) := Ik (by omega) (by omega) (by omega) (by omega)
  have l15 : (I cl = I 15) = (cl = 15) := Ik (by omega) (by omega) (by omega) (by omega)
  have l16 : (I cl = I 16) = (cl = 16) := Ik (by omega) (by omega) (by omega) (by omega)
  have D := K.2.2.1
  have e : f1_set h (x + 24) (I z) = (f0_set h r (I cl) (I z)).bind fun x36 => (if x36.1 = true then some (true, x36.2) else some (false, x36.2)) := by
    rw [f1_set, K.1.o, Option.bind_some, K.1.f0, Option.bind_some, K.1.f1, K.1.f4, u4]
    rfl
  have isf : ∀ {lo hi : Int} {hh : AH}, 0 ≤ lo → hi ≤ 1000 → 0 ≤ hi → lo ≤ 1000 → f8_isFrom hh (I z) (I lo) (I hi) = some (decide (lo ≤ z ∧ z ≤ hi)) := fun p q o y => isFrom_of (by omega) (by omega) (by omega) (by omega) (by omega) (by omega)
  rw [e, f0_set, D.o, Option.bind_some]
  simp only [I_lit]
  rcases c12 with q | q | q | q
  · rw [show msu cl z mu = us mu 0 z by rw [q]; rfl, show mss cl z mu ms = ms by rw [q]; rfl, show mlo cl = 1 by rw [q]; rfl, show mhi cl = 99 by rw [q]; rfl]
    rw [if_pos (by rw [l13]; exact q), isf (by omega) (by omega) (by omega) (by omega), Option.bind_some]
    refine ⟨fun p => ?_, fun p => ?_⟩
    · obtain ⟨h1, e1, D1, F1⟩ := MK.setF D (k := 0) (v := .int (I z)) (mu' := us mu 0 z) rfl (by omega)
      have K1 := K.ofM D1 F1
      rw [if_pos (decide_eq_true p), e1]
      exact ⟨h1, rfl, K1⟩
    · rw [if_neg (by rw [decide_eq_true_eq]; exact p), f0_set_23]
      simp only [I_lit]
      rw [if_neg (by rw [l14]; omega), f0_set_47]
      simp only [I_lit]
      rw [if_neg (by rw [l16]; omega), f0_set_77]
      simp only [I_lit]
      rw [if_neg (by rw [l15]; omega)]
      rfl
  · rw [show msu cl z mu = us mu 1 z by rw [q]; rfl, show mss cl z mu ms = ms by rw [q]; rfl, show mlo cl = 0 by rw [q]; rfl, show mhi cl = 1000 by rw [q]; rfl]
    rw [if_neg (by rw [l13]; omega), f0_set_23]
    simp only [I_lit]
    rw [if_pos (by rw [l14]; exact q), isf (by omega) (by omega) (by omega) (by omega), Option.bind_some]
    refine ⟨fun p => ?_, fun p => ?_⟩
    · obtain ⟨h1, e1, D1, F1⟩ := MK.setF D (k := 1) (v := .int (I z)) (mu' := us mu 1 z) rfl (by omega)
      have K1 := K.ofM D1 F1
      rw [if_pos (decide_eq_true p), e1]
      exact ⟨h1, rfl, K1⟩
    · rw [if_neg (by rw [decide_eq_true_eq]; exact p), f0_set_47]
      simp only [I_lit]
      rw [if_neg (by rw [l16]; omega), f0_set_77]
      simp only [I_lit]
      rw [if_neg (by rw [l15]; omega)]
      rfl
  · rw [show msu cl z mu = us mu 4 (mu 4 + 1) by rw [q]; rfl, show mss cl z mu ms = up ms (mu 4) z by rw [q]; rfl, show mlo cl = 0 by rw [q]; rfl, show mhi cl = 5 by rw [q]; rfl]
    rw [if_neg (by rw [l13]; omega), f0_set_23]
    simp only [I_lit]
    rw [if_neg (by rw [l14]; omega), f0_set_47]
    simp only [I_lit]
    rw [if_neg (by rw [l16]; omega), f0_set_77]
    simp only [I_lit]
    rw [if_pos (by rw [l15]; exact q), isf (by omega) (by omega) (by omega) (by omega), Option.bind_some]
    refine ⟨fun p => ?_, fun p => ?_⟩
    · have l12 : (I 12 ≤ I (mu 4)) = (12 ≤ mu 4) := I_le (by omega) (by omega) (by omega) (by omega)
      obtain ⟨h1, e1, A1, F1⟩ := D.2.set (i := mu 4) (v := z) m40 m41
      have D1 : MK h1 r mu (up ms (mu 4) z) := ⟨D.1.at (F1.2 _ (by omega)), A1⟩
      obtain ⟨h2, e2, D2, F2⟩ := MK.setF D1 (k := 4) (v := .int (I (mu 4 + 1))) (mu' := us mu 4 (mu 4 + 1)) rfl (by omega)
      have K2 := K.ofM D2 ((F1.mono (by omega) (by omega)).trans F2)
      rw [if_pos (decide_eq_true p), D.f4, Option.bind_some, D.f3, Option.bind_some, D.2.n (by omega), Option.bind_some, if_neg (by rw [l12]; omega), Option.bind_some, Option.bind_some, e1, Option.bind_some, D1.f4, Option.bind_some, I_add, e2]
      exact ⟨h2, rfl, K2⟩
    · rw [if_neg (by rw [decide_eq_true_eq]; exact p)]
      rfl
  · rw [show msu cl z mu = us mu 2 (ori (mu 2) (2 ^ z.toNat)) by rw [q]; rfl, show mss cl z mu ms = ms by rw [q]; rfl, show mlo cl = 0 by rw [q]; rfl, show mhi cl = 9 by rw [q]; rfl]
    rw [if_neg (by rw [l13]; omega), f0_set_23]
    simp only [I_lit]
    rw [if_neg (by rw [l14]; omega), f0_set_47]
    simp only [I_lit]
    rw [if_pos (by rw [l16]; exact q), isf (by omega) (by omega) (by omega) (by omega), Option.bind_some]
    refine ⟨fun p => ?_, fun p => ?_⟩
    · have sh : I 1 <<< (I z &&& I 31) = I (2 ^ z.toNat) := by
        have : z = 0 ∨ z = 1 ∨ z = 2 ∨ z = 3 ∨ z = 4 ∨ z = 5 ∨ z = 6 ∨ z = 7 ∨ z = 8 ∨ z = 9 := by omega
        rcases this with o | o | o | o | o | o | o | o | o | o <;> subst o <;> decide
      have pz : (0 : Int) ≤ 2 ^ z.toNat ∧ (2 : Int) ^ z.toNat < 2147483648 := by
        have : z = 0 ∨ z = 1 ∨ z = 2 ∨ z = 3 ∨ z = 4 ∨ z = 5 ∨ z = 6 ∨ z = 7 ∨ z = 8 ∨ z = 9 := by omega
        rcases this with o | o | o | o | o | o | o | o | o | o <;> subst o <;> decide
      obtain ⟨h1, e1, D1, F1⟩ := MK.setF D (k := 2) (v := .int (I (ori (mu 2) (2 ^ z.toNat)))) (mu' := us mu 2 (ori (mu 2) (2 ^ z.toNat))) rfl (by omega)
      have K1 := K.ofM D1 F1
      rw [if_pos (decide_eq_true p), D.f2, Option.bind_some, sh, I_or m20 (by omega) pz.1 pz.2, e1]
      exact ⟨h1, rfl, K1⟩
    · rw [if_neg (by rw [decide_eq_true_eq]; exact p), f0_set_77]
      simp only [I_lit]
      rw [if_neg (by rw [l15]; omega)]
      rfl
theorem KM0.setting (K : KM0 h x r T n c s 1 cl nl once mu ms) (hn : n ≤ 400) (B : ∀ i, 0 ≤ i → i < n → 0 ≤ T i ∧ T i ≤ 255) (c12 : mword cl) (m20 : 0 ≤ mu 2) (m21 : mu 2 ≤ 1023) (m40 : 0 ≤ mu 4) (m41 : mu 4 < 12) : ∃ h1, Fm x r h h1 ∧ PLo x h c = (disp 1 x h1).bind (fun h2 => PLo x h2 (c + 1)) ∧ (¬ isd T n s → FOm x r T n c s h1 (disp 1 x h1) 0) ∧ (isd T n s → ¬ (dend T n s - s ≤ 5 ∧ mlo cl ≤ nvf T s (dend T n s - s).toNat ∧ nvf T s (dend T n s - s).toNat ≤ mhi cl) → FOm x r T n c s h1 (disp 1 x h1) 1) ∧ (isd T n s → (dend T n s - s ≤ 5 ∧ mlo cl ≤ nvf T s (dend T n s - s).toNat ∧ nvf T s (dend T n s - s).toNat ≤ mhi cl) → ∃ h2, disp 1 x h1 = some h2 ∧ KM0 h2 x r T n (c + 1) (bl T n (nx T n s)) 2 cl nl once (msu cl (nvf T s (dend T n s - s).toNat) mu) (mss cl (nvf T s (dend T n s - s).toNat) mu ms) ∧ Fm x r h1 h2) := by
  obtain ⟨u, w, t, K, ⟨t1, t2, t3, t4, t5⟩, ⟨u2, u4, u5, u6, u8⟩⟩ := K
  have kr := kd_rng T n s
  have br := bl_rng (T := T) t5
  rw [t2] at br
  have nr := nx_rng B (s := s) (by omega) br.2 hn
  have dr := dend_rng (T := T) br.2
  have de := dend_end (T := T) (i := s) (n := n) (by omega) br.2 hn
  have nv := nvf_lt (T := T) (s := s) (dend T n s - s).toNat (fun i hi => de.1 (s + i) (by omega) (by omega))
  obtain ⟨h1, t', P1, Q1, F1, r1, r2, r3, r4, r5, e⟩ := PB.tok (c := c) K.1 K.2.1 (by omega) (by omega) (by omega) (by rw [t1]; exact B) t3 (by omega) (by omega) (by omega) u8
  have K1 := K.ofT Q1 F1
  rw [t1, t2] at r2 r3 r4 r5
  rw [u2] at e
  have ed : disp 1 x h1 = f1_takeSetting h1 (x + 24) (x + 22) := by simp [disp]
  have fo : ∀ k : Int, 0 ≤ k ∧ k ≤ 7 → FOm x r T n c s h1 ((f1_fail h1 (x + 24) (x + 22) (I k)).bind fun y => some y) k := fun k kk => K1.1.fo (n := n) (s := s) (c := c) (by rw [r1]; exact t1) r3 (by omega) (by omega) t3 (by omega) (by omega) (by omega) kk
  refine ⟨h1, K1.2, e, fun q => ?_, fun q p => ?_, fun q p => ?_⟩
  · have l21 : (I (kd T n s) = I 21) = (kd T n s = 21) := Ik kr.1 (by omega) (by omega) (by omega)
    have e0 : f1_takeSetting h1 (x + 24) (x + 22) = (f1_fail h1 (x + 24) (x + 22) (I 0)).bind fun y => some y := by
      rw [f1_takeSetting, P1.o, Option.bind_some, Q1.f4, Option.bind_some, r4]
      simp only [I_lit]
      rw [if_neg (by rw [l21]; exact fun z => q (kd_21.mp z))]
    rw [ed, e0]
    exact fo 0 (by omega)
  · obtain ⟨r5, r6⟩ := r5 q
    obtain ⟨-, X, Y⟩ := P1.takeSetting Q1 r4 kr.1 (by omega) (by omega) (by omega)
    by_cases d5 : dend T n s - s ≤ 5
    · rw [ed, Y (kd_21.mpr q) (by omega) h1 false (by rw [r5]; exact (K1.1.set u4 c12 nv.1 nv.2 m20 m21 m40 m41).2 (fun z => p ⟨d5, z⟩)), if_neg (by simp)]
      exact fo 1 (by omega)
    · rw [ed, X (kd_21.mpr q) (by omega)]
      exact fo 1 (by omega)
  · obtain ⟨r5, r6⟩ := r5 q
    obtain ⟨-, X, Y⟩ := P1.takeSetting Q1 r4 kr.1 (by omega) (by omega) (by omega)
    obtain ⟨h2, e2, K2, F2⟩ := (K1.1.set u4 c12 nv.1 nv.2 m20 m21 m40 m41).1 p.2
    obtain ⟨h3, e3, P3, F3⟩ := K2.1.s2 2
    have K3 := K2.ofP P3 F3
    have n2 := nr.2.2 (by rw [kd_21.mpr q]; omega)
    refine ⟨h3, ?_, ⟨_, w, t', K3.1, ⟨by rw [r1]; exact t1, by rw [r2], by omega, by omega, by omega⟩, ⟨us_eq, u4, u5, u6, u8⟩⟩, F2.trans K3.2⟩
    rw [ed, Y (kd_21.mpr q) (by omega) h2 true (by rw [r5]; exact e2), if_pos rfl, e3, Option.bind_some]
theorem KM0.behind (K : KM0 h x r T n c s 2 cl nl once mu ms) (hn : n ≤ 400) (B : ∀ i, 0 ≤ i → i < n → 0 ≤ T i ∧ T i ≤ 255) (c12 : mword cl) : ∃ h1, Fm x r h h1 ∧ PLo x h c = (disp 2 x h1).bind (fun h2 => PLo x h2 (c + 1)) ∧ (kd T n s ≠ 32 → kd T n s ≠ 33 → FOm x r T n c s h1 (disp 2 x h1) 0) ∧ (kd T n s = 32 → ∃ h2, disp 2 x h1 = some h2 ∧ KM0 h2 x r T n (c + 1) (bl T n (nx T n s)) 0 cl nl once mu ms ∧ Fm x r h1 h2) ∧ (kd T n s = 33 → ∃ h2, disp 2 x h1 = some h2 ∧ PLo x h2 (c + 1) = some (I 0, h2) ∧ KZm h2 x r T n mu ms ∧ Fm x r h1 h2) := by
  obtain ⟨u, w, t, K, ⟨t1, t2, t3, t4, t5⟩, ⟨u2, u4, u5, u6, u8⟩⟩ := K
  have cr : 13 ≤ cl ∧ cl ≤ 16 := by rcases c12 with q | q | q | q <;> omega
  have kr := kd_rng T n s
  have br := bl_rng (T := T) t5
  rw [t2] at br
  have nr := nx_rng B (s := s) (by omega) br.2 hn
  obtain ⟨h1, t', P1, Q1, F1, r1, r2, r3, r4, r5, e⟩ := PB.tok (c := c) K.1 K.2.1 (by omega) (by omega) (by omega) (by rw [t1]; exact B) t3 (by omega) (by omega) (by omega) u8
  have K1 := K.ofT Q1 F1
  rw [t1, t2] at r2 r3 r4
  rw [u2] at e
  have ed : disp 2 x h1 = f1_takeBehindClause h1 (x + 24) (x + 22) := by simp [disp]
  have fo : ∀ k : Int, 0 ≤ k ∧ k ≤ 7 → FOm x r T n c s h1 ((f1_fail h1 (x + 24) (x + 22) (I k)).bind fun y => some y) k := fun k kk => K1.1.fo (n := n) (s := s) (c := c) (by rw [r1]; exact t1) r3 (by omega) (by omega) t3 (by omega) (by omega) (by omega) kk
  obtain ⟨X, Y, Z⟩ := P1.behindSetting Q1 r4 kr.1 (by omega) u4 (by omega) (by omega) (by omega) (by omega)
  refine ⟨h1, K1.2, e, fun q p => ?_, fun q => ?_, fun q => ?_⟩
  · rw [ed, X q p]; exact fo 0 (by omega)
  · obtain ⟨h3, e3, P3, F3⟩ := K1.1.1.s2 0
    have K3 := K1.1.ofP P3 F3
    have n2 := nr.2.2 (by omega)
    exact ⟨h3, by rw [ed, Y q, e3, Option.bind_some], ⟨_, w, t', K3.1, ⟨by rw [r1]; exact t1, by rw [r2], by omega, by omega, by omega⟩, ⟨us_eq, u4, u5, u6, u8⟩⟩, K3.2⟩
  · obtain ⟨h3, e3, P3, F3⟩ := K1.1.1.s2 7
    have K3 := K1.1.ofP P3 F3
    have st := P3.stop (c := c + 1) (by omega) (by omega) (by rw [us_eq]; omega) (by rw [us_eq]; omega) (by rw [us_ne (by omega)]; omega) (by rw [us_ne (by omega)]; omega) (.inr us_eq)
    rw [us_ne (by omega), u8] at st
    exact ⟨h3, by rw [ed, Z q, e3, Option.bind_some], st, ⟨_, w, t', K3.1, by rw [r1]; exact t1⟩, K3.2⟩
/-- the class's start -/
theorem KM.start {q1 q2 : Option Nat} (P : PB h (x + 24) q1 q2 u w) (Q : TP h (x + 22) t T) (D : MK h r mu ms) (hr : x + 35 ≤ r) (en : t 1 = n) (n0 : 0 ≤ n) : ∃ h' cl, f1_parse h (x + 24) (x + 22) none (some r) = PLo x h' 0 ∧ KM0 h' x r T n 0 (bl T n 0) 0 cl 0 (rom false false) (us (us (us (us mu 0 1) 1 0) 2 0) 4 0) ms ∧ Fm x r h h' := by
  obtain ⟨h1, e1, P1, F1⟩ := P.s0 none
  obtain ⟨h2, e2, P2, F2⟩ := P1.s1 (some r)
  have D2 := (D.fr F1 (by omega)).fr F2 (by omega)
  have Q2 := (Q.fr F1 (by omega)).fr F2 (by omega)
  have K2 : KM h2 x r u w t T mu ms := ⟨P2, Q2, D2, hr⟩
  obtain ⟨h3, e3, D3, F3⟩ := MK.setF D2 (k := 0) (v := .int (I 1)) (mu' := us mu 0 1) rfl (by omega)
  obtain ⟨h4, e4, D4, F4⟩ := MK.setF D3 (k := 1) (v := .int (I 0)) (mu' := us (us mu 0 1) 1 0) rfl (by omega)
  obtain ⟨h5, e5, D5, F5⟩ := MK.setF D4 (k := 2) (v := .int (I 0)) (mu' := us (us (us mu 0 1) 1 0) 2 0) rfl (by omega)
  obtain ⟨h5', e5', D5', F5'⟩ := MK.setF D5 (k := 4) (v := .int (I 0)) (mu' := us (us (us (us mu 0 1) 1 0) 2 0) 4 0) rfl (by omega)
  have K5 := K2.ofM D5' (((F3.trans F4).trans F5).trans F5')
  obtain ⟨h6, e6, P6, F6⟩ := K5.1.1.s2 0
  obtain ⟨h7, e7, P7, F7⟩ := P6.s5 0
  obtain ⟨h8, e8, P8, F8⟩ := P7.s6 0
  obtain ⟨h9, e9, P9, F9⟩ := P8.s7 0
  obtain ⟨hA, eA, PA, FA⟩ := P9.s8 0
  have KA := K5.1.ofP PA ((((F6.trans F7).trans F8).trans F9).trans FA)
  obtain ⟨hB, eB, QB, FB⟩ := KA.1.2.1.s2 0
  have KB := KA.1.ofT QB FB
  refine ⟨hB, u 4, ?_, ⟨_, w, _, KB.1, ⟨en, by rw [us_eq], by omega, by rw [us_eq]; omega, by rw [us_eq]; exact n0⟩, ⟨rfl, rfl, rfl, rfl, rfl⟩⟩, (((F1.trans F2).m (by omega)).trans K5.2).trans (KA.2.trans KB.2)⟩
  have eb : f1_begin h (x + 24) none (some r) = some hA := by
    rw [f1_begin, P.o, Option.bind_some, e1, Option.bind_some, e2, Option.bind_some, P2.f0, Option.bind_some]
    show ((fQ 1 1 h2 (x + 24)).bind fun x25 => (oM x25 (f1_begin_38 h2 (x + 24)) fun a28 => (fQ 1 1 h2 (x + 24)).bind fun x32 => (x32).bind fun b35 => (f0_clear h2 b35).bind fun x35 => f1_begin_38 x35 (x + 24))) = _
    rw [P2.f1, Option.bind_some]
    show ((some (some r)).bind fun x32 => (x32).bind fun b35 => (f0_clear h2 b35).bind fun x35 => f1_begin_38 x35 (x + 24)) = _
    rw [Option.bind_some, Option.bind_some, f0_clear, D2.o, Option.bind_some]
    simp only [I_lit]
    rw [e3, Option.bind_some, e4, Option.bind_some, e5, Option.bind_some, e5', Option.bind_some, Option.bind_some, f1_begin_38]
    simp only [I_lit]
    rw [e6, Option.bind_some, e7, Option.bind_some, e8, Option.bind_some, e9, Option.bind_some, eA, Option.bind_some]
  rw [f1_parse, P.o, Option.bind_some, eb, Option.bind_some, f6_rewind, KA.1.2.1.o, Option.bind_some]
  simp only [I_lit]
  rw [eB, Option.bind_some, Option.bind_some]
  rfl
end
