/-! MADE: what a MAKER adds, DAY by DAY -/
def mkP (r : Int → Int) (sl n : Int) (sr : Int → Int) (p d x : Int) : Int := if d ≤ 9999 ∧ hd r p d = false then (if dr x / 65536 % 1000 < sl then plS r n sr d (dr (dr x)) else plN r n sr d) else -1
def mkC (r : Int → Int) (sl n : Int) (sr : Int → Int) (p : Int) : Nat → Int → Int → Int
  | 0, _, _ => 0
  | k + 1, d, x => (if mkP r sl n sr p d x = -1 then 0 else 1) + mkC r sl n sr p k (d + 1) (dr (dr x))
def mkR (r0 : Int → Int) (sl n : Int) (sr : Int → Int) (p : Int) : Nat → Int → Int → (Int → Int) → (Int → Int)
  | 0, _, _, r => r
  | k + 1, d, x, r => mkR r0 sl n sr p k (d + 1) (dr (dr x)) (if mkP r0 sl n sr p d x = -1 then r else rPage r p d (mkP r0 sl n sr p d x))
theorem mkC_rng (r : Int → Int) (sl n : Int) (sr : Int → Int) (p : Int) : ∀ (k : Nat) (d x : Int), 0 ≤ mkC r sl n sr p k d x ∧ mkC r sl n sr p k d x ≤ k := by
  intro k
  induction k with
  | zero => intro d x; simp [mkC]
  | succ k ih => intro d x; have := ih (d + 1) (dr (dr x)); simp only [mkC]; split <;> omega
theorem plN_rng {r : Int → Int} (R : RI r) (n : Int) (sr : Int → Int) (d : Int) : -1 ≤ plN r n sr d ∧ plN r n sr d ≤ 99 := by
  unfold plN
  split
  · exact fsr_rng (fun i => Fl_rng R _ _)
  · exact Tl_rng R d
theorem plS_rng {r : Int → Int} (R : RI r) (n : Int) (sr : Int → Int) (d x : Int) : -1 ≤ plS r n sr d x ∧ plS r n sr d x ≤ 99 := by
  unfold plS
  split
  · exact Fl_rng R _ _
  · omega
theorem mkP_rng {r : Int → Int} (R : RI r) (sl n : Int) (sr : Int → Int) (p d x : Int) : -1 ≤ mkP r sl n sr p d x ∧ mkP r sl n sr p d x ≤ 99 := by
  unfold mkP
  split
  · split
    · exact plS_rng R _ _ _ _
    · exact plN_rng R _ _ _
  · omega
theorem pc_page {r : Int → Int} (R : RI r) (p d l : Int) (n : r 5 < 400) (q : Int → Int → Int → Bool) : pc (rPage r p d l) q = pc r q + (if q p d l = true then 1 else 0) := by
  have b := R.1
  have ev : ∀ k, k ≠ 5 ∧ (k < 2230 + 3 * r 5 ∨ 2230 + 3 * r 5 + 3 ≤ k) → rPage r p d l k = r k := fun k hk => by simp (disch := omega) only [rPage, up_ne]
  have vn : rPage r p d l 5 = r 5 + 1 := up_eq
  have a0 : rPage r p d l (2230 + 3 * r 5) = p := by simp (disch := omega) only [rPage, up_ne, up_eq]
  have a1 : rPage r p d l (2230 + 3 * r 5 + 1) = d := by simp (disch := omega) only [rPage, up_ne, up_eq]
  have a2 : rPage r p d l (2230 + 3 * r 5 + 2) = l := by simp (disch := omega) only [rPage, up_ne, up_eq]
  generalize rPage r p d l = r' at ev vn a0 a1 a2 ⊢
  have e1 : pc r' q = cn (fun k => q (r' (2230 + 3 * k)) (r' (2230 + 3 * k + 1)) (r' (2230 + 3 * k + 2))) ((r 5).toNat + 1) 0 := by
    unfold pc; rw [vn, show (r 5 + 1).toNat = (r 5).toNat + 1 by omega]
  have e2 : cn (fun k => q (r' (2230 + 3 * k)) (r' (2230 + 3 * k + 1)) (r' (2230 + 3 * k + 2))) (r 5).toNat 0 = pc r q := cn_cong _ _ fun j j0 j1 => by
    rw [ev (2230 + 3 * j) (by omega), ev (2230 + 3 * j + 1) (by omega), ev (2230 + 3 * j + 2) (by omega)]
  rw [e1, cn_last, e2, show (0 : Int) + ((r 5).toNat : Nat) = r 5 by omega]
  simp only [a0, a1, a2]
theorem hd_page {r : Int → Int} (R : RI r) {p d l y : Int} (n : r 5 < 400) (h : y ≠ d) : hd (rPage r p d l) p y = hd r p y := by
  unfold hd pq
  rw [pc_page R p d l n]
  simp [Ne.symm h]
/-- what stays while PAGES are added to p -/
def sameM (r0 r : Int → Int) (p d : Int) : Prop := RI r ∧ (∀ x, Tl r x = Tl r0 x) ∧ (∀ s x, Fl r s x = Fl r0 s x) ∧ (∀ y, d ≤ y → hd r p y = hd r0 p y) ∧ r 4 = r0 4 ∧ r 0 = r0 0 ∧ r 1 = r0 1
theorem sameM.mono {r0 r : Int → Int} {p d d' : Int} (s : sameM r0 r p d) (h : d ≤ d') : sameM r0 r p d' := ⟨s.1, s.2.1, s.2.2.1, fun y hy => s.2.2.2.1 y (by omega), s.2.2.2.2⟩
theorem sameM.page {r0 r : Int → Int} {p d l : Int} (s : sameM r0 r p d) (n : r 5 < 400) (p0 : 0 ≤ p) (p1 : p < r 4) (d0 : 0 ≤ d) (d1 : d ≤ 9999) (l0 : 0 ≤ l) (l1 : l ≤ 99) : sameM r0 (rPage r p d l) p (d + 1) := by
  have b := s.1.1
  have ev : ∀ k, k ≠ 5 ∧ (k < 2230 + 3 * r 5 ∨ 2230 + 3 * r 5 + 3 ≤ k) → rPage r p d l k = r k := fun k hk => by simp (disch := omega) only [rPage, up_ne]
  refine ⟨RI_page s.1 n p0 p1 d0 d1 l0 l1, fun x => ?_, fun t x => ?_, fun y hy => ?_, ?_, ?_, ?_⟩
  · rw [Tl_cong (by omega) (by omega) (ev 2 (by omega)) (fun k k0 k1 => ev k (by omega))]; exact s.2.1 x
  · rw [Fl_cong (by omega) (by omega) (ev 3 (by omega)) (fun k k0 k1 => ev k (by omega))]; exact s.2.2.1 t x
  · rw [hd_page s.1 n (by omega)]; exact s.2.2.2.1 y (by omega)
  · rw [ev 4 (by omega)]; exact s.2.2.2.2.1
  · rw [ev 0 (by omega)]; exact s.2.2.2.2.2.1
  · rw [ev 1 (by omega)]; exact s.2.2.2.2.2.2
theorem sameM.plc {r0 r : Int → Int} {p d : Int} (s : sameM r0 r p d) (n : Int) (sr : Int → Int) (y x : Int) : plN r n sr y = plN r0 n sr y ∧ plS r n sr y x = plS r0 n sr y x := by
  unfold plN plS
  rw [s.2.1 y]
  refine ⟨?_, ?_⟩
  · rw [fsr_cong (F := fun i => Fl r (sr i) y) (G := fun i => Fl r0 (sr i) y) (fun i _ _ => s.2.2.1 _ _)]
  · rw [s.2.2.1]
theorem sameM.mkPe {r0 r : Int → Int} {p d : Int} (s : sameM r0 r p d) (sl n : Int) (sr : Int → Int) (x : Int) : mkP r sl n sr p d x = mkP r0 sl n sr p d x := by
  unfold mkP
  rw [s.2.2.2.1 d (Int.le_refl _), (s.plc n sr d (dr (dr x))).1, (s.plc n sr d (dr (dr x))).2]
section
variable {h h' : AH} {a x0 : Nat} {u : Nat → Int} {sr : Int → Int} {r : Int → Int} {c : Nat → Int → Int}
/-- one DAY of it, without writing -/
theorem MK.mk58F (W : WD h (x0 + 1) r c) {p d l y add i : Int} (p0 : 0 ≤ p) (p1 : p < r 4) (d0 : 0 ≤ d) (d1 : d ≤ 20000) (l0 : -1 ≤ l) (l1 : l ≤ 99) (sl : Bool) (e : f0_placeFor h a (x0 + 1) (I d) sl (I y) = some (I l)) (kk : AH → Int32 → Int32 → Int32 → Option (Int32 × AH)) (v3 v4 : Int32) : f0_writePages_58 kk h a (x0 + 1) (I p) v3 v4 false (I y) (I add) (I i) (I d) a (x0 + 1) (I d) sl = kk h (I y) (I (add + (if (if d ≤ 9999 ∧ hd r p d = false then l else -1) = -1 then 0 else 1))) (I (i + 1)) := by
  have bb := W.ri.1
  have hk := W.pg.hasKey (key := p * 10000 + d) (by omega) (by omega)
  by_cases q1 : l = -1
  · have : (if d ≤ 9999 ∧ hd r p d = false then l else -1) = -1 := by split <;> omega
    rw [this]
    simp (disch := omega) only [f0_writePages_58, f0_writePages_112, e, q1, Option.bind_some, I_lit, I_neg, I_add, I_sub, I_mul, I_lt, I_le, I_eq, if_pos, if_neg, if_true, if_false, decide_eq_true_eq, Bool.false_eq_true, Int.add_zero]
  · by_cases q2 : d ≤ 9999
    · have hdd := W.hasD p0 (d := d) (by omega) q2
      rw [hdd] at hk
      cases q3 : hd r p d
      · rw [q3] at hk
        have : (if d ≤ 9999 ∧ false = false then l else -1) = l := if_pos ⟨q2, rfl⟩
        rw [this, if_neg q1]
        simp (disch := omega) only [f0_writePages_58, f0_writePages_112, e, W.f5, hk, Option.bind_some, I_lit, I_neg, I_add, I_sub, I_mul, I_lt, I_le, I_eq, if_pos, if_neg, if_true, if_false, decide_eq_true_eq, Bool.false_eq_true]
      · rw [q3] at hk
        have : (if d ≤ 9999 ∧ true = false then l else -1) = -1 := if_neg (fun z => by cases z.2)
        rw [this, if_pos rfl]
        simp (disch := omega) only [f0_writePages_58, f0_writePages_112, e, W.f5, hk, Option.bind_some, I_lit, I_neg, I_add, I_sub, I_mul, I_lt, I_le, I_eq, if_pos, if_neg, if_true, if_false, decide_eq_true_eq, Bool.false_eq_true, Int.add_zero]
    · have : (if d ≤ 9999 ∧ hd r p d = false then l else -1) = -1 := if_neg (fun z => q2 z.1)
      rw [this, if_pos rfl]
      simp (disch := omega) only [f0_writePages_58, f0_writePages_112, e, Option.bind_some, I_lit, I_neg, I_add, I_sub, I_mul, I_lt, I_le, I_eq, if_pos, if_neg, if_true, if_false, decide_eq_true_eq, Bool.false_eq_true, Int.add_zero]
theorem MK.head (K : MK h a u sr) (X : MI u sr) {w : Nat} {p day n : Int32} {dd x add i : Int} (x0_ : 0 ≤ x) (x1 : x < 2147483648) {nn : Int} (hn : n = I nn) (nn0 : 0 ≤ nn) (nn1 : nn ≤ 60) (i0 : 0 ≤ i) (i1 : i < nn) (hd_ : day + I i = I dd) (rl : Bool) (f : Nat) : f0_writePages_10 a w p day n rl (f + 1) h (I x) (I add) (I i) = f0_writePages_58 (fun h v7 v8 v9 => f0_writePages_10 a w p day n rl f h v7 v8 v9) h a w p day n rl (I (dr (dr x))) (I add) (I i) (I dd) a w (I dd) (decide (dr x / 65536 % 1000 < u 1)) := by
  have b := X.1
  have r1 := dr_rng x
  have D1 : f8_drawn h (I x) = some (I (dr x)) := drawn_of x0_ x1
  have D2 : f8_drawn h (I (dr x)) = some (I (dr (dr x))) := drawn_of r1.1 r1.2
  have P1 : f8_perMille h (I (dr x)) = some (I (dr x / 65536 % 1000)) := perMille_of r1.1 r1.2
  subst hn
  generalize dr (dr x) = y2 at *
  generalize dr x = y1 at *
  have g : ¬ I nn ≤ I i := by rw [I_le (by omega) (by omega) (by omega) (by omega)]; omega
  rw [f0_writePages_10]
  rw [if_neg g, D1, Option.bind_some, D2, Option.bind_some, Option.bind_some, hd_, P1, Option.bind_some, K.f1, Option.bind_some]
  by_cases z : y1 / 65536 % 1000 < u 1
  · rw [if_neg (by rw [I_le (by omega) (by omega) (by omega) (by omega)]; omega), decide_eq_true z]
  · rw [if_pos (by rw [I_le (by omega) (by omega) (by omega) (by omega)]; omega), decide_eq_false z]
theorem mkP_of {l : Int} {r : Int → Int} {s n : Int} {sr : Int → Int} {p d x : Int} (hl : d ≤ 9999 → l = if decide (dr x / 65536 % 1000 < s) = true then plS r n sr d (dr (dr x)) else plN r n sr d) : mkP r s n sr p d x = if d ≤ 9999 ∧ hd r p d = false then l else -1 := by
  unfold mkP
  by_cases q : d ≤ 9999 ∧ hd r p d = false
  · rw [if_pos q, if_pos q, hl q.1]
    by_cases z : dr x / 65536 % 1000 < s
    · rw [if_pos z, if_pos (decide_eq_true z)]
    · rw [if_neg z, if_neg (by simpa using z)]
  · rw [if_neg q, if_neg q]
theorem mkC_s (r : Int → Int) (sl n : Int) (sr : Int → Int) (p : Int) (k : Nat) (d x : Int) : mkC r sl n sr p (k + 1) d x = (if mkP r sl n sr p d x = -1 then 0 else 1) + mkC r sl n sr p k (d + 1) (dr (dr x)) := rfl
theorem mkR_s (r0 : Int → Int) (sl n : Int) (sr : Int → Int) (p : Int) (k : Nat) (d x : Int) (r : Int → Int) : mkR r0 sl n sr p (k + 1) d x r = mkR r0 sl n sr p k (d + 1) (dr (dr x)) (if mkP r0 sl n sr p d x = -1 then r else rPage r p d (mkP r0 sl n sr p d x)) := rfl
set_option maxHeartbeats 100000 in
theorem MK.mk0 {w : Nat} {p day : Int32} {n : Int} (n0 : 0 ≤ n) (n1 : n ≤ 60) (rl : Bool) (f : Nat) (h : AH) (x add : Int32) : f0_writePages_10 a w p day (I n) rl (f + 1) h x add (I n) = some (add, h) := by
  rw [f0_writePages_10]
  rw [if_pos (Int32.le_refl _)]
set_option maxHeartbeats 100000 in
theorem MK.mkF (K : MK h a u sr) (X : MI u sr) (W : WD h (x0 + 1) r c) {p day n : Int} (p0 : 0 ≤ p) (p1 : p < r 4) (d0 : 0 ≤ day) (d1 : day ≤ 9999) (n1 : n ≤ 60) : ∀ (k f : Nat) (x add i : Int), 0 ≤ x → x < 2147483648 → 0 ≤ i → i + k = n → k < f → f0_writePages_10 a (x0 + 1) (I p) (I day) (I n) false f h (I x) (I add) (I i) = some (I (add + mkC r (u 1) (u 4) sr p k (day + i) x), h) := by
  have b := X.1
  have bb := W.ri.1
  intro k
  induction k with
  | zero =>
    intro f x add i x0_ x1 i0 i1 hf
    have ei : i = n := by omega
    subst ei
    cases f with
    | zero => omega
    | succ f =>
      rw [MK.mk0 i0 n1]
      simp only [mkC, Int.add_zero]
  | succ k ih =>
    intro f x add i x0_ x1 i0 i1 hf
    cases f with
    | zero => omega
    | succ f =>
      have r2 := dr_rng (dr x)
      obtain ⟨l, e, l0, l1, hl⟩ := K.place X W (d := day + i) (by omega) (by omega) r2.1 r2.2 (decide (dr x / 65536 % 1000 < u 1))
      have ih' := ih f (dr (dr x)) (add + (if (if day + i ≤ 9999 ∧ hd r p (day + i) = false then l else -1) = -1 then 0 else 1)) (i + 1) r2.1 r2.2 (by omega) (by omega) (by omega)
      have st := K.head X x0_ x1 rfl (by omega) n1 i0 (by omega) (I_add day i) false f (w := x0 + 1) (p := I p) (add := add)
      have s2 := MK.mk58F (add := add) (i := i) W p0 p1 (by omega) (by omega) l0 l1 _ e (fun h v7 v8 v9 => f0_writePages_10 a (x0 + 1) (I p) (I day) (I n) false f h v7 v8 v9) (I day) (I n)
      have e1 : mkC r (u 1) (u 4) sr p (k + 1) (day + i) x = (if (if day + i ≤ 9999 ∧ hd r p (day + i) = false then l else -1) = -1 then 0 else 1) + mkC r (u 1) (u 4) sr p k (day + (i + 1)) (dr (dr x)) := by
        rw [mkC_s, mkP_of hl, Int.add_assoc]
      rw [e1, ← Int.add_assoc add]
      exact st.trans (s2.trans ih')
end
