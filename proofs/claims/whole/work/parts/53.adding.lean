/-! what a MAKER of the class adds, and whose it could be (gen53.py) -/
section
variable {h h' : AH} {a x : Nat} {u : Nat → Int} {sr : Int → Int} {r : Int → Int} {c : Nat → Int → Int} {nr nm : Int}
theorem WD.insPage (W : WD h (x + 1) r c) {p d l : Int} (n : r 5 < 400) (s0 : 0 ≤ p) (s1 : p < r 4) (y0 : 0 ≤ d) (y1 : d ≤ 9999) (q0 : 0 ≤ l) (q1 : l ≤ 99) (hno : hd r p d = false) : ∃ h' c', f2_insert h (x + 1 + 11) (I (p * 10000 + d)) (I l) = some (I (r 5 + 1), h') ∧ WD h' (x + 1) (rPage r p d l) c' ∧ Fr (x + 1) (x + 21) h h' := by
  have b := W.ri.1
  have hk : kh (c 6) (r 5) (p * 10000 + d) = false := by rw [W.hasD s0 y0 y1, hno]
  obtain ⟨h1, e1, P1, F1⟩ := W.pg.ins (key := p * 10000 + d) (v := l) (by omega) (by omega) (by omega) (by omega) n hk
  have z0 : (rPage r p d l) 0 = r 0 := by simp (disch := omega) only [rPage, up_ne]
  have z1 : (rPage r p d l) 1 = r 1 := by simp (disch := omega) only [rPage, up_ne]
  have z2 : (rPage r p d l) 2 = r 2 := by simp (disch := omega) only [rPage, up_ne]
  have z3 : (rPage r p d l) 3 = r 3 := by simp (disch := omega) only [rPage, up_ne]
  have z4 : (rPage r p d l) 4 = r 4 := by simp (disch := omega) only [rPage, up_ne]
  have z5 : (rPage r p d l) 5 = r 5 + 1 := up_eq
  have z6 : (rPage r p d l) 6 = r 6 := by simp (disch := omega) only [rPage, up_ne]
  have z7 : (rPage r p d l) 7 = r 7 := by simp (disch := omega) only [rPage, up_ne]
  have z8 : (rPage r p d l) 8 = r 8 := by simp (disch := omega) only [rPage, up_ne]
  refine ⟨h1, uf (uf c 6 (inK (c 6) (ff (c 6) (r 5) (p * 10000 + d)) (r 5) (p * 10000 + d))) 7 (inK (c 7) (ff (c 6) (r 5) (p * 10000 + d)) (r 5) l), ?_, ⟨by rw [z0]; exact W.1.at (F1.2 _ (by omega)), by rw [z1]; exact W.st.fr F1 (by omega), by rw [z2]; exact W.tr.fr F1 (by omega), by rw [z3]; exact W.fa.fr F1 (by omega), by rw [z4]; exact W.pi.fr F1 (by omega), by rw [z5]; exact P1, by rw [z6]; exact W.lo.fr F1 (by omega), by rw [z7]; exact W.te.fr F1 (by omega), by rw [z8]; exact W.pe.fr F1 (by omega), CW_page W.cr n s0 s1 y0 y1 q0 q1 (fun q => by
    have := inK_cn (K := c 6) (Q := c 7) (b := ff (c 6) (r 5) (p * 10000 + d)) (n := r 5) (key := p * 10000 + d) (v := l) (W.pg.ffs _).1 (W.pg.ffs _).2.1 (fun a y => q (a / 10000) (a % 10000) y)
    rw [show (p * 10000 + d) / 10000 = p by omega, show (p * 10000 + d) % 10000 = d by omega] at this
    exact this)⟩, F1.mono (by omega) (by omega)⟩
  exact e1
theorem MK.mk58T (W : WD h (x + 1) r c) {p d l y add i : Int} (p0 : 0 ≤ p) (p1 : p < r 4) (d0 : 0 ≤ d) (d1 : d ≤ 20000) (l0 : -1 ≤ l) (l1 : l ≤ 99) (sl : Bool) (e : f0_placeFor h a (x + 1) (I d) sl (I y) = some (I l)) (kk : AH → Int32 → Int32 → Int32 → Option (Int32 × AH)) (v3 v4 : Int32) {mk : Int} (em : mk = if d ≤ 9999 ∧ hd r p d = false then l else -1) (n : mk ≠ -1 → r 5 < 400) : ∃ h' c', f0_writePages_58 kk h a (x + 1) (I p) v3 v4 true (I y) (I add) (I i) (I d) a (x + 1) (I d) sl = kk h' (I y) (I (add + (if mk = -1 then 0 else 1))) (I (i + 1)) ∧ WD h' (x + 1) (if mk = -1 then r else rPage r p d mk) c' ∧ Fr (x + 1) (x + 21) h h' := by
  have bb := W.ri.1
  have hk := W.pg.hasKey (key := p * 10000 + d) (by omega) (by omega)
  by_cases q1 : l = -1
  · have e0 : mk = -1 := by rw [em]; split <;> omega
    subst e0
    refine ⟨h, c, ?_, by rw [if_pos rfl]; exact W, Fr.refl _ _ _⟩
    simp (disch := omega) only [f0_writePages_58, f0_writePages_112, e, q1, Option.bind_some, I_lit, I_neg, I_add, I_sub, I_mul, I_lt, I_le, I_eq, if_pos, if_neg, if_true, if_false, decide_eq_true_eq, Bool.false_eq_true, Int.add_zero]
  · by_cases q2 : d ≤ 9999
    · have hdd := W.hasD p0 (d := d) (by omega) q2
      rw [hdd] at hk
      cases q3 : hd r p d
      · have e0 : mk = l := by rw [em]; exact if_pos ⟨q2, q3⟩
        subst e0
        obtain ⟨h1, c1, e1, W1, F1⟩ := W.insPage (p := p) (d := d) (l := mk) (n q1) p0 p1 d0 q2 (by omega) l1 q3
        rw [q3] at hk
        refine ⟨h1, c1, ?_, by rw [if_neg q1]; exact W1, F1⟩
        rw [if_neg q1]
        simp (disch := omega) only [f0_writePages_58, f0_writePages_112, e, W.f5, hk, Option.bind_some, I_lit, I_neg, I_add, I_sub, I_mul, I_lt, I_le, I_eq, if_pos, if_neg, if_true, if_false, decide_eq_true_eq, e1, Bool.false_eq_true]
      · have e0 : mk = -1 := by rw [em]; exact if_neg (fun z => by rw [q3] at z; cases z.2)
        subst e0
        rw [q3] at hk
        refine ⟨h, c, ?_, by rw [if_pos rfl]; exact W, Fr.refl _ _ _⟩
        rw [if_pos rfl]
        simp (disch := omega) only [f0_writePages_58, f0_writePages_112, e, W.f5, hk, Option.bind_some, I_lit, I_neg, I_add, I_sub, I_mul, I_lt, I_le, I_eq, if_pos, if_neg, if_true, if_false, decide_eq_true_eq, Bool.false_eq_true, Int.add_zero]
    · have e0 : mk = -1 := by rw [em]; exact if_neg (fun z => q2 z.1)
      subst e0
      refine ⟨h, c, ?_, by rw [if_pos rfl]; exact W, Fr.refl _ _ _⟩
      rw [if_pos rfl]
      simp (disch := omega) only [f0_writePages_58, f0_writePages_112, e, Option.bind_some, I_lit, I_neg, I_add, I_sub, I_mul, I_lt, I_le, I_eq, if_pos, if_neg, if_true, if_false, decide_eq_true_eq, Bool.false_eq_true, Int.add_zero]
theorem rPage5 (r : Int → Int) (p d l : Int) : rPage r p d l 5 = r 5 + 1 := up_eq
set_option maxHeartbeats 200000 in
theorem MK.mkT {r0 : Int → Int} (X : MI u sr) (da : a + 2 ≤ x + 1 ∨ x + 21 ≤ a) {p day n : Int} (p0 : 0 ≤ p) (p1 : p < r0 4) (d0 : 0 ≤ day) (d1 : day ≤ 9999) (n1 : n ≤ 60) : ∀ (k f : Nat) (h : AH) (r : Int → Int) (c : Nat → Int → Int) (x_ add i : Int), MK h a u sr → WD h (x + 1) r c → sameM r0 r p (day + i) → r 5 + mkC r0 (u 1) (u 4) sr p k (day + i) x_ ≤ 400 → 0 ≤ x_ → x_ < 2147483648 → 0 ≤ i → i + k = n → k < f → ∃ h' c', f0_writePages_10 a (x + 1) (I p) (I day) (I n) true f h (I x_) (I add) (I i) = some (I (add + mkC r0 (u 1) (u 4) sr p k (day + i) x_), h') ∧ MK h' a u sr ∧ WD h' (x + 1) (mkR r0 (u 1) (u 4) sr p k (day + i) x_ r) c' ∧ Fr (x + 1) (x + 21) h h' := by
  have b := X.1
  intro k
  induction k with
  | zero =>
    intro f h r c x_ add i K W S n5 x0_ x1 i0 i1 hf
    have ei : i = n := by omega
    subst ei
    cases f with
    | zero => omega
    | succ f =>
      refine ⟨h, c, ?_, K, W, Fr.refl _ _ _⟩
      rw [MK.mk0 i0 n1]
      simp only [mkC, Int.add_zero]
  | succ k ih =>
    intro f h r c x_ add i K W S n5 x0_ x1 i0 i1 hf
    cases f with
    | zero => omega
    | succ f =>
      have r2 := dr_rng (dr x_)
      have s4 := S.2.2.2.2.1
      obtain ⟨l, e, l0, l1, hl⟩ := K.place X W (d := day + i) (by omega) (by omega) r2.1 r2.2 (decide (dr x_ / 65536 % 1000 < u 1))
      have em := mkP_of (p := p) hl
      rw [S.mkPe] at em
      have mr := mkP_rng W.ri (u 1) (u 4) sr p (day + i) x_
      rw [S.mkPe] at mr
      have cr := mkC_rng r0 (u 1) (u 4) sr p k (day + i + 1) (dr (dr x_))
      rw [mkC_s] at n5
      have nn : mkP r0 (u 1) (u 4) sr p (day + i) x_ ≠ -1 → r 5 < 400 := fun z => by
        rw [if_neg z] at n5; omega
      have st := K.head X x0_ x1 rfl (by omega) n1 i0 (by omega) (I_add day i) true f (w := x + 1) (p := I p) (add := add)
      obtain ⟨h1, c1, e1, W1, F1⟩ := MK.mk58T (add := add) (i := i) W p0 (by omega) (by omega) (by omega) l0 l1 _ e (fun h v7 v8 v9 => f0_writePages_10 a (x + 1) (I p) (I day) (I n) true f h v7 v8 v9) (I day) (I n) em nn
      have K1 := K.fr F1 (by omega)
      rw [mkC_s, mkR_s, ← Int.add_assoc add]
      rw [show day + i + 1 = day + (i + 1) by omega] at n5 ⊢
      generalize hmk : mkP r0 (u 1) (u 4) sr p (day + i) x_ = mk at *
      have S1 : sameM r0 (if mk = -1 then r else rPage r p (day + i) mk) p (day + (i + 1)) := by
        by_cases z : mk = -1
        · rw [if_pos z]; exact S.mono (by omega)
        · rw [if_neg z]
          have dd : day + i ≤ 9999 := by
            by_cases g : day + i ≤ 9999
            · exact g
            · exact absurd (em.trans (if_neg (fun z => g z.1))) z
          have := S.page (nn z) p0 (by omega) (by omega) dd (l := mk) (by omega) mr.2
          rw [Int.add_assoc] at this
          exact this
      have n51 : (if mk = -1 then r else rPage r p (day + i) mk) 5 + mkC r0 (u 1) (u 4) sr p k (day + (i + 1)) (dr (dr x_)) ≤ 400 := by
        by_cases z : mk = -1
        · rw [if_pos z]; rw [if_pos z] at n5; omega
        · rw [if_neg z, rPage5]; rw [if_neg z] at n5; omega
      obtain ⟨h2, c2, e2, K2, W2, F2⟩ := ih f h1 _ c1 (dr (dr x_)) (add + (if mk = -1 then 0 else 1)) (i + 1) K1 W1 S1 n51 r2.1 r2.2 (by omega) (by omega) (by omega)
      exact ⟨h2, c2, st.trans (e1.trans e2), K2, W2, F1.trans F2⟩
theorem up_comm {g : Int → Int} {i j x y : Int} (h : i ≠ j) : up (up g i x) j y = up (up g j y) i x := by
  funext k
  unfold up
  by_cases a : k = j
  · rw [if_pos a, if_neg (by omega), if_pos a]
  · rw [if_neg a, if_neg a]
theorem rPage_up {r : Int → Int} {i x p d l : Int} (h5 : 0 ≤ r 5) (i0 : 1330 ≤ i) (i1 : i < 2230) : rPage (up r i x) p d l = up (rPage r p d l) i x := by
  unfold rPage
  rw [up_ne (show (5 : Int) ≠ i by omega), up_comm (show i ≠ 2230 + 3 * r 5 by omega), up_comm (show i ≠ 2230 + 3 * r 5 + 1 by omega), up_comm (show i ≠ 2230 + 3 * r 5 + 2 by omega), up_comm (show i ≠ 5 by omega)]
theorem mkR_up (r0 : Int → Int) (sl n : Int) (sr : Int → Int) (p : Int) {i y : Int} (i0 : 1330 ≤ i) (i1 : i < 2230) : ∀ (k : Nat) (d x : Int) (r : Int → Int), 0 ≤ r 5 → mkR r0 sl n sr p k d x (up r i y) = up (mkR r0 sl n sr p k d x r) i y := by
  intro k
  induction k with
  | zero => intro d x r _; rfl
  | succ k ih =>
    intro d x r h5
    rw [mkR_s, mkR_s]
    by_cases z : mkP r0 sl n sr p d x = -1
    · rw [if_pos z, if_pos z]; exact ih _ _ _ h5
    · rw [if_neg z, if_neg z, rPage_up h5 i0 i1]
      exact ih _ _ _ (by rw [rPage5]; omega)
/-- whose it could be -/
theorem bs_up {q : Int → Bool} {i n : Int} (h0 : 0 ≤ i) (h1 : i < n) (hn : n ≤ 6) : 0 ≤ bs q i.toNat ∧ bs q i.toNat ≤ 63 := by
  have a := bs_rng q i.toNat
  have e : (2 : Nat) ^ i.toNat ≤ 2 ^ 6 := Nat.pow_le_pow_right (by omega) (by omega)
  have e2 : ((2 ^ i.toNat : Nat) : Int) = 2 ^ i.toNat := by rw [Int.natCast_pow]; rfl
  omega
theorem XO.couldL (O : XO h x nr nm) (W : WD h (x + 1) r c) {mu : Int → Nat → Int} {ms : Int → Int → Int} (A : AQ h (x + 27) 6 6 (fun k => some (x + 59 + 2 * k.toNat))) (n0 : 0 ≤ nm) (n1 : nm ≤ 6) (hm : ∀ k, 0 ≤ k → k < nm → MK h (x + 59 + 2 * k.toNat) (mu k) (ms k) ∧ MI (mu k) (ms k)) {p : Int} (p0 : 0 ≤ p) (p1 : p < r 4) : ∀ (f : Nat) (i : Int), 0 ≤ i → i ≤ nm → nm - i < f → f8_could_20 h x (I p) f (I (bs (fun k => cmk r (mu k 2) (mu k 4) (ms k) p) i.toNat)) (I i) = some (I (bs (fun k => cmk r (mu k 2) (mu k 4) (ms k) p) nm.toNat)) := by
  intro f
  induction f with
  | zero => intro i h0 h1; omega
  | succ f ih =>
    intro i i0 i1 i2
    by_cases g : i < nm
    · obtain ⟨K, X⟩ := hm i i0 g
      have cm := K.canMake X W p0 p1
      have ih' := ih (i + 1) (by omega) (by omega) (by omega)
      have ag := A.g i0 (by omega)
      cases q : cmk r (mu i 2) (mu i 4) (ms i) p
      · rw [bs_skip (q := fun k => cmk r (mu k 2) (mu k 4) (ms k) p) i0 q] at ih'
        rw [q] at cm
        simp (disch := omega) only [f8_could_20, O.f7, O.f6, O.f0, A.n, ag, oM, cm, Option.bind_some, I_lit, I_neg, I_add, I_sub, I_mul, I_lt, I_le, I_eq, if_pos, if_neg, if_true, if_false, decide_eq_true_eq, Bool.false_eq_true, ih']
      · rw [← bs_or (q := fun k => cmk r (mu k 2) (mu k 4) (ms k) p) i0 (by omega) q] at ih'
        rw [q] at cm
        simp (disch := omega) only [f8_could_20, O.f7, O.f6, O.f0, A.n, ag, oM, cm, Option.bind_some, I_lit, I_neg, I_add, I_sub, I_mul, I_lt, I_le, I_eq, if_pos, if_neg, if_true, if_false, decide_eq_true_eq]
        exact ih'
    · have : i = nm := by omega
      subst this
      simp (disch := omega) only [f8_could_20, O.f7, Option.bind_some, I_lit, I_neg, I_add, I_sub, I_mul, I_lt, I_le, I_eq, if_pos, if_neg, if_true, if_false, decide_eq_true_eq]
  done
end
