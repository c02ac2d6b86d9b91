/-! SOONEST of the reference, whole -/
theorem Lst_at (q : Int) : ∀ (k j : Nat), j < (Lst q k).length → 0 ≤ (Lst q k).getD j 0 ∧ (Lst q k).getD j 0 < k ∧ bi q ((Lst q k).getD j 0) = 1
  | 0, j, h => by simp [Lst] at h
  | k + 1, j, h => by
    have e : Lst q (k + 1) = Lst q k ++ (if bi q k = 1 then [(k : Int)] else []) := rfl
    rw [e] at h ⊢
    by_cases c : bi q k = 1
    · rw [if_pos c] at h ⊢
      rw [List.length_append, List.length_singleton] at h
      by_cases d : j < (Lst q k).length
      · rw [List.getD_eq_getElem?_getD, List.getElem?_append_left d, ← List.getD_eq_getElem?_getD]
        have := Lst_at q k j d
        exact ⟨this.1, by omega, this.2.2⟩
      · have : j = (Lst q k).length := by omega
        subst this
        rw [List.getD_eq_getElem?_getD, List.getElem?_append_right (Nat.le_refl _), Nat.sub_self]
        exact ⟨by show (0 : Int) ≤ k; omega, by show (k : Int) < ((k + 1 : Nat) : Int); omega, c⟩
    · rw [if_neg c, List.append_nil] at h ⊢
      have := Lst_at q k j h
      exact ⟨this.1, by omega, this.2.2⟩
theorem Lst_mono (q : Int) : ∀ (k i j : Nat), i < j → j < (Lst q k).length → (Lst q k).getD i 0 < (Lst q k).getD j 0
  | 0, i, j, _, h => by simp [Lst] at h
  | k + 1, i, j, hij, h => by
    have e : Lst q (k + 1) = Lst q k ++ (if bi q k = 1 then [(k : Int)] else []) := rfl
    rw [e] at h ⊢
    by_cases c : bi q k = 1
    · rw [if_pos c] at h ⊢
      rw [List.length_append, List.length_singleton] at h
      have gi : (Lst q k ++ [(k : Int)]).getD i 0 = (Lst q k).getD i 0 := by
        rw [List.getD_eq_getElem?_getD, List.getElem?_append_left (by omega), ← List.getD_eq_getElem?_getD]
      rw [gi]
      by_cases d : j < (Lst q k).length
      · rw [List.getD_eq_getElem?_getD (l := Lst q k ++ [(k : Int)]), List.getElem?_append_left d, ← List.getD_eq_getElem?_getD]
        exact Lst_mono q k i j hij d
      · have : j = (Lst q k).length := by omega
        subst this
        rw [List.getD_eq_getElem?_getD (l := Lst q k ++ [(k : Int)]), List.getElem?_append_right (Nat.le_refl _), Nat.sub_self]
        exact (Lst_at q k i (by omega)).2.1
    · rw [if_neg c, List.append_nil] at h ⊢
      exact Lst_mono q k i j hij h
theorem bits_dec : ∀ n : Fin 256, f9_bits (0, fun _ => none) (I (n.val : Int)) = some (I (cn (fun i => decide (bi (n.val : Int) i = 1)) 8 0)) := by decide +kernel
theorem bits4_h {h h' : AH} : ∀ (f : Nat) (a b : Int32), f9_bits_4 h f a b = f9_bits_4 h' f a b
  | 0, _, _ => rfl
  | f + 1, a, b => by
    rw [f9_bits_4, f9_bits_4]
    simp only [Option.bind_some, bits4_h (h := h) (h' := h') f]
theorem bits_of {h : AH} {n : Int} (h0 : 0 ≤ n) (h1 : n < 256) : f9_bits h (I n) = some (I (cn (fun i => decide (bi n i = 1)) 8 0)) := by
  have a := bits_dec ⟨n.toNat, by omega⟩
  have b : f9_bits h (I n) = f9_bits (0, fun _ => none) (I n) := bits4_h FU _ _
  rw [b]
  have e : ((n.toNat : Nat) : Int) = n := by omega
  rw [show ((⟨n.toNat, by omega⟩ : Fin 256).val : Int) = n from e] at a
  exact a
/-- how many of a set there are -/
theorem Lst_all {q : Int} {nr : Nat} (q0 : 0 ≤ q) (q1 : q < 2 ^ nr) (n8 : nr ≤ 8) : ((Lst q nr).length : Int) = cn (fun i => decide (bi q i = 1)) 8 0 := by
  rw [Lst_cn, show 8 = nr + (8 - nr) by omega, cn_add]
  have z : ∀ (k : Nat) (i : Int), (nr : Int) ≤ i → cn (fun i => decide (bi q i = 1)) k i = 0 := by
    intro k
    induction k with
    | zero => intro i _; rfl
    | succ k ih =>
      intro i hi
      simp only [cn]
      rw [ih (i + 1) (by omega), if_neg (by rw [decide_eq_true_eq, bi_hi q0 q1 hi]; omega)]
      rfl
  rw [show (0 : Int) + (nr : Nat) = (nr : Int) by omega, z _ _ (Int.le_refl _), Int.add_zero]
def nnL (q : Int) (nr : Nat) : Int → Int := fun j => (Lst q nr).getD j.toNat 0
def tkL (q : Int) (nr : Nat) (tf : Int → Int) : Int → Int := fun a => if 0 ≤ a ∧ a < (Lst q nr).length then tf (nnL q nr a) else 0
def soo (tf cf : Int → Int) (q : Int) (nr : Nat) (wh : Int) : Int := sfin (Lst q nr).length (nnL q nr) wh (mwf (tkL q nr tf) (tkL q nr cf) (Lst q nr).length (toL (Lst q nr).length id), bof (tkL q nr tf) (tkL q nr cf) (Lst q nr).length (toL (Lst q nr).length id))
theorem RM.uf {g : Nat → Int → Int} {k : Int} {u : Nat → Int} {cd sg cl : Int → Int} {nc : Int} (Y : RM g k u cd sg cl nc) {a : Nat} {y : Int → Int} (h : 9 ≤ a) : RM (uf g a y) k u cd sg cl nc := by
  obtain ⟨a1, a2, a3, a4, a5, a6⟩ := Y
  exact ⟨fun j => by rw [uf_ne (by omega)]; exact a1 j, fun j => by rw [uf_ne (by omega)]; exact a2 j, by rw [uf_ne (by omega)]; exact a3, by rw [uf_ne (by omega)]; exact a4, by rw [uf_ne (by omega)]; exact a5, a6⟩
section
variable {m : Nat} {se : Int64} {ru : Int → Nat → Int} {rc sg cl : Int → Int → Int} {nc : Int → Int}
theorem MO.fillS {p b q : Int} {nr : Nat} (nr8 : nr ≤ 8) (q0 : 0 ≤ q) (q1 : q < 256) (L6 : (Lst q nr).length ≤ 6) {r : Int → Int} (R : RI r) (p0 : 0 ≤ p) (p1 : p < r 4) (b0 : 0 ≤ b) (b1 : b < r 4) (wh : Int32) : ∀ (f : Nat) (h : AH) (v : Nat → Int) (g : Nat → Int → Int) (gl : Nat → Int → Int64) (i : Nat), MO h m v se g gl → g 1 = r → v 14 = nr → (∀ k : Int, 0 ≤ k → k < nr → RM g k (ru k) (rc k) (sg k) (cl k) (nc k)) → (∀ j : Nat, j < (Lst q i).length → g 19 j = (Lst q i).getD j 0) → (∀ k : Int, 0 ≤ k → k < i → bi q k = 1 → g 21 k = cvl r p b (sg k) (cl k) (nc k)) → i ≤ nr → nr - i < f → ∃ h' v' g' gl', f9_soonest_59 m (I q) (I p) (I b) wh f h (I ((Lst q i).length : Int)) (I (i : Int)) = f9_soonest_121 m wh (I ((Lst q nr).length : Int)) FU h' (J (-1)) true ∧ MO h' m v' se g' gl' ∧ (∀ j, j ≠ 26 → v' j = v j) ∧ (∀ j, j ≠ 19 → j ≠ 21 → g' j = g j) ∧ (∀ j : Nat, j < (Lst q nr).length → g' 19 j = (Lst q nr).getD j 0) ∧ (∀ k : Int, 0 ≤ k → k < nr → bi q k = 1 → g' 21 k = cvl r p b (sg k) (cl k) (nc k)) ∧ Fr m (m + 24) h h' := by
  intro f
  induction f with
  | zero => intro h v g gl i _ _ _ _ _ _ _ hf; omega
  | succ f ih =>
    intro h v g gl i M eg ev hRM h19 h21 hi hf
    have ln : (I (nr : Int) ≤ I (i : Int)) = ((nr : Int) ≤ i) := I_le (by omega) (by omega) (by omega) (by omega)
    by_cases c : i < nr
    · have bt := I_bit (a := q) (i := (i : Int)) q0 (by omega) (by omega) (by omega)
      have br := bi_rng q (i : Int)
      have l0 : (I (bi q (i : Int)) = I 0) = (bi q (i : Int) = 0) := I_eq (by omega) (by omega) (by omega) (by omega)
      have eL : Lst q (i + 1) = Lst q i ++ (if bi q (i : Int) = 1 then [(i : Int)] else []) := rfl
      have step : f9_soonest_59 m (I q) (I p) (I b) wh (f + 1) h (I ((Lst q i).length : Int)) (I (i : Int)) = if I (bi q (i : Int)) = I 0 then f9_soonest_59 m (I q) (I p) (I b) wh f h (I ((Lst q i).length : Int)) (I ((i + 1 : Nat) : Int)) else (sI 0 h (m + 19) (I ((Lst q i).length : Int)) (I (i : Int))).bind fun h88 => (fR 9 33 h88 m).bind fun x90 => (f9_chanceOf h88 m (I (i : Int)) (I p) (I b)).bind fun x100 => (sI 0 x100.2 x90 (I (i : Int)) x100.1).bind fun h103 => f9_soonest_59 m (I q) (I p) (I b) wh f h103 (I (((Lst q i).length : Int) + 1)) (I ((i + 1 : Nat) : Int)) := by
        rw [f9_soonest_59, M.f14, Option.bind_some, ev]
        simp only [I_lit]
        rw [if_neg (by rw [ln]; omega), bt]
        simp only [Option.bind_some, I_add, M.f31, show (i : Int) + 1 = ((i + 1 : Nat) : Int) by omega]
      rw [step]
      by_cases z : bi q (i : Int) = 1
      · have lc := Lst_len q (i + 1) (nr - (i + 1))
        rw [show i + 1 + (nr - (i + 1)) = nr by omega, eL, if_pos z, List.length_append, List.length_singleton] at lc
        obtain ⟨h1, e1, M1, F1⟩ := M.w19 (i := ((Lst q i).length : Int)) (i : Int) (by omega) (by omega)
        have Y := (hRM i (by omega) (by omega)).uf (a := 19) (y := up (g 19) ((Lst q i).length : Int) (i : Int)) (by omega)
        have R1 : RI (uf g 19 (up (g 19) ((Lst q i).length : Int) (i : Int)) 1) := by rw [uf_ne (by omega), eg]; exact R
        obtain ⟨h2, v2, gl2, e2, M2, V2, F2⟩ := M1.chOf R1 Y (by omega) (by omega) p0 (by rw [uf_ne (by omega), eg]; exact p1) b0 (by rw [uf_ne (by omega), eg]; exact b1)
        rw [uf_ne (by omega), eg] at e2
        obtain ⟨h3, e3, M3, F3⟩ := M2.w21 (i := (i : Int)) (cvl r p b (sg i) (cl i) (nc i)) (by omega) (by omega)
        rw [uf_ne (by omega)] at M3
        obtain ⟨h4, v4, g4, gl4, e4, M4, V4, G4, A4, B4, F4⟩ := ih h3 v2 _ gl2 (i + 1) M3 (by rw [uf_ne (by omega), uf_ne (by omega)]; exact eg) (by rw [V2 14 (by omega)]; exact ev) (fun k k0 k1 => ((hRM k k0 k1).uf (by omega)).uf (by omega)) (fun j hj => by
          rw [uf_ne (by omega), uf_eq]
          rw [eL, if_pos z, List.length_append, List.length_singleton] at hj
          rw [eL, if_pos z]
          by_cases y : j = (Lst q i).length
          · subst y
            rw [up_eq, List.getD_eq_getElem?_getD, List.getElem?_append_right (Nat.le_refl _), Nat.sub_self]
            rfl
          · rw [up_ne (by omega), List.getD_eq_getElem?_getD, List.getElem?_append_left (by omega), ← List.getD_eq_getElem?_getD]
            exact h19 j (by omega)) (fun k k0 k1 kb => by
          rw [uf_eq]
          by_cases y : k = i
          · subst y; exact up_eq
          · rw [up_ne y]; exact h21 k k0 (by omega) kb) (by omega) (by omega)
        have ll : ((Lst q (i + 1)).length : Int) = (Lst q i).length + 1 := by rw [eL, if_pos z, List.length_append, List.length_singleton]; omega
        rw [ll] at e4
        refine ⟨h4, v4, g4, gl4, ?_, M4, fun j hj => by rw [V4 j hj, V2 j hj], fun j a b => by rw [G4 j a b, uf_ne b, uf_ne a], A4, B4, ((F1.trans F2).trans F3).trans F4⟩
        rw [if_neg (by rw [l0]; omega), e1, Option.bind_some, M1.f33, Option.bind_some, e2, Option.bind_some, e3, Option.bind_some, e4]
      · have eL' : Lst q (i + 1) = Lst q i := by rw [eL, if_neg z, List.append_nil]
        obtain ⟨h4, v4, g4, gl4, e4, M4, V4, G4, A4, B4, F4⟩ := ih h v g gl (i + 1) M eg ev hRM (by rw [eL']; exact h19) (fun k k0 k1 kb => by
          by_cases y : k = i
          · subst y; exact absurd kb z
          · exact h21 k k0 (by omega) kb) (by omega) (by omega)
        rw [eL'] at e4
        refine ⟨h4, v4, g4, gl4, ?_, M4, V4, G4, A4, B4, F4⟩
        rw [if_pos (by rw [l0]; omega), e4]
    · have en : i = nr := by omega
      subst en
      refine ⟨h, v, g, gl, ?_, M, fun _ _ => rfl, fun _ _ _ => rfl, h19, h21, Fr.refl _ _ _⟩
      rw [f9_soonest_59, M.f14, Option.bind_some, ev, if_pos (by rw [ln]; omega)]
      simp only [J_lit, J_neg]
      rw [Option.bind_some]
theorem L_ne {q : Int} {nr : Nat} (q0 : 1 ≤ q) (q1 : q < 2 ^ nr) (n8 : nr ≤ 8) : 1 ≤ (Lst q nr).length := by
  have a := Lst_all (by omega : (0 : Int) ≤ q) q1 n8
  have p256 : q < 256 := by
    have : (2 : Nat) ^ nr ≤ 2 ^ 8 := Nat.pow_le_pow_right (by omega) n8
    have e : ((2 ^ nr : Nat) : Int) = 2 ^ nr := by rw [Int.natCast_pow]; rfl
    omega
  have d : ∀ z : Fin 256, 1 ≤ z.val → 1 ≤ cn (fun i => decide (bi (z.val : Int) i = 1)) 8 0 := by decide +kernel
  have := d ⟨q.toNat, by omega⟩ (by show 1 ≤ q.toNat; omega)
  rw [show ((⟨q.toNat, by omega⟩ : Fin 256).val : Int) = q from Int.toNat_of_nonneg (by omega)] at this
  omega
/-- SOONEST's facts about a set, for both sides -/
theorem soo_facts {q : Int} {nr : Nat} {tf cf : Int → Int} (q0 : 1 ≤ q) (q1 : q < 2 ^ nr) (n8 : nr ≤ 8) (ht : ∀ k : Int, 0 ≤ k → k < nr → 0 ≤ tf k ∧ tf k ≤ 99) (hc : ∀ k : Int, 0 ≤ k → k < nr → 0 ≤ cf k ∧ cf k ≤ 1000) : 1 ≤ (Lst q nr).length ∧ (∀ a : Int, 0 ≤ a → a < (Lst q nr).length → 0 ≤ nnL q nr a ∧ nnL q nr a < nr ∧ bi q (nnL q nr a) = 1) ∧ (∀ a b : Int, 0 ≤ a → a < b → b < (Lst q nr).length → nnL q nr a < nnL q nr b) ∧ (∀ a, 0 ≤ tkL q nr tf a ∧ tkL q nr tf a ≤ 99) ∧ (∀ a, 0 ≤ tkL q nr cf a ∧ tkL q nr cf a ≤ 1000) := by
  have at_ : ∀ a : Int, 0 ≤ a → a < (Lst q nr).length → 0 ≤ nnL q nr a ∧ nnL q nr a < nr ∧ bi q (nnL q nr a) = 1 := fun a a0 a1 => Lst_at q nr a.toNat (by omega)
  refine ⟨L_ne q0 q1 n8, at_, fun a b a0 ab b1 => Lst_mono q nr a.toNat b.toNat (by omega) (by omega), fun a => ?_, fun a => ?_⟩
  · unfold tkL
    by_cases c : 0 ≤ a ∧ a < (Lst q nr).length
    · have := at_ a c.1 c.2
      rw [if_pos c]; exact ht _ this.1 this.2.1
    · rw [if_neg c]; omega
  · unfold tkL
    by_cases c : 0 ≤ a ∧ a < (Lst q nr).length
    · have := at_ a c.1 c.2
      rw [if_pos c]; exact hc _ this.1 this.2.1
    · rw [if_neg c]; omega
theorem p2nr {k : Int} (k0 : 0 ≤ k) (k1 : k ≤ 8) : 1 ≤ (2 : Int) ^ k.toNat ∧ (2 : Int) ^ k.toNat ≤ 256 := by
  have : (2 : Nat) ^ k.toNat ≤ 2 ^ 8 := Nat.pow_le_pow_right (by omega) (by omega)
  have p : 0 < (2 : Nat) ^ k.toNat := Nat.pow_pos (by omega)
  have e : ((2 ^ k.toNat : Nat) : Int) = 2 ^ k.toNat := by rw [Int.natCast_pow]; rfl
  omega
def sooOK (r : Int → Int) (nr q p b wh : Int) : Prop := (1 ≤ q ∧ q ≤ 2 ^ nr.toNat - 1) ∧ cn (fun i => decide (bi q i = 1)) 8 0 ≤ 6 ∧ (0 ≤ p ∧ p < r 4 ∧ 0 ≤ b ∧ b < r 4 ∧ p ≠ b) ∧ 0 ≤ wh ∧ wh ≤ 6
theorem MO.soonest {h : AH} {v : Nat → Int} {g : Nat → Int → Int} {gl : Nat → Int → Int64} (M : MO h m v se g gl) (R : RI (g 1)) (n0 : 0 ≤ v 14) (n1 : v 14 ≤ 8) (hRM : ∀ k : Int, 0 ≤ k → k < v 14 → RM g k (ru k) (rc k) (sg k) (cl k) (nc k)) {q p b wh : Int} (ok : sooOK (g 1) (v 14) q p b wh) : ∃ h' v' g' gl', f9_soonest h m (I q) (I p) (I b) (I wh) = some (J (soo (fun k => ru k 0) (fun k => cvl (g 1) p b (sg k) (cl k) (nc k)) q (v 14).toNat wh), h') ∧ MO h' m v' se g' gl' ∧ (∀ j, j ≠ 26 → v' j = v j) ∧ (∀ j, j ≠ 19 → j ≠ 20 → j ≠ 21 → g' j = g j) ∧ Fr m (m + 24) h h' := by
  have fu := FU_big
  obtain ⟨⟨q0, q1⟩, c6, ⟨p0, p1, b0, b1, hne⟩, w0, w1⟩ := ok
  have bb := R.1
  have pz := p2nr n0 n1
  have ei : (((v 14).toNat : Nat) : Int) = v 14 := Int.toNat_of_nonneg n0
  have la := Lst_all (q := q) (nr := (v 14).toNat) (by omega) (by omega) (by omega)
  obtain ⟨f1, f2, f3, f4, f5⟩ := soo_facts (q := q) (nr := (v 14).toNat) (tf := fun k => ru k 0) (cf := fun k => cvl (g 1) p b (sg k) (cl k) (nc k)) q0 (by omega) (by omega) (fun k k0 k1 => by have := (hRM k k0 (by omega)).2.2.2.2.2; exact ⟨by have := this.2.2.1; omega, this.2.2.2.1⟩) (fun k k0 k1 => cvl_rng _ _ _ _ _ _)
  obtain ⟨h1, v1, g1, gl1, e1, M1, V1, G1, A1, B1, F1⟩ := MO.fillS (p := p) (b := b) (q := q) (nr := (v 14).toNat) (by omega) (by omega) (by omega) (by omega) R p0 p1 b0 b1 (I wh) FU h v g gl 0 M rfl ei.symm (fun k k0 k1 => hRM k k0 (by omega)) (fun j hj => by simp [Lst] at hj) (fun k k0 k1 => by omega) (by omega) (by omega)
  have X : TC g1 (Lst q (v 14).toNat).length (nnL q (v 14).toNat) (tkL q (v 14).toNat fun k => ru k 0) (tkL q (v 14).toNat fun k => cvl (g 1) p b (sg k) (cl k) (nc k)) := fun a a0 a1 => by
    obtain ⟨x1, x2, x3⟩ := f2 a a0 a1
    refine ⟨x1, by omega, ?_, ?_⟩
    · rw [G1 7 (by omega) (by omega), (hRM _ x1 (by omega)).2.2.2.1]
      unfold tkL
      rw [if_pos ⟨a0, a1⟩]
    · rw [B1 _ x1 x2 x3]
      unfold tkL
      rw [if_pos ⟨a0, a1⟩]
  have RL0 : RLn (Lst q (v 14).toNat).length (nnL q (v 14).toNat) (g1 19) (fromL (toL (Lst q (v 14).toNat).length id)) := fun i i0 i1 => by
    rw [toL_get i0 i1]
    have := A1 i.toNat (by omega)
    rw [Int.toNat_of_nonneg i0] at this
    exact ⟨this, i0, i1⟩
  have ch := chains (n := (Lst q (v 14).toNat).length) f1 (by omega)
  obtain ⟨h2, g2, e2, M2, G2, F2⟩ := soon_run (n := (Lst q (v 14).toNat).length) f1 (by omega) f3 f4 f5 w0 w1 720 FU (toL (Lst q (v 14).toNat).length id) (-1, []) h1 g1 M1 X RL0 toL_len ch.1 (.inl rfl) (by omega)
  have FAq := (PLf_FA (tk := tkL q (v 14).toNat fun k => ru k 0) (ch := tkL q (v 14).toNat fun k => cvl (g 1) p b (sg k) (cl k) (nc k)) (fun a => (f4 a).1) (fun a => (f5 a).1) (Lst q (v 14).toNat).length (toL (Lst q (v 14).toNat).length id) toL_len).1
  have mn := mwf_nn (tk := tkL q (v 14).toNat fun k => ru k 0) (ch := tkL q (v 14).toNat fun k => cvl (g 1) p b (sg k) (cl k) (nc k)) (fun a => (f4 a).1) (fun a => (f5 a).1) (Lst q (v 14).toNat).length (toL (Lst q (v 14).toNat).length id) toL_len
  rw [ch.2, fold_FA mn FAq] at e2
  refine ⟨h2, v1, g2, gl1, ?_, M2, V1, fun j a b c => by rw [G2 j a b, G1 j a c], F1.trans F2⟩
  have e1' : f9_soonest_59 m (I q) (I p) (I b) (I wh) FU h (I 0) (I 0) = _ := e1
  rw [f9_soonest, M.o, Option.bind_some, M.f14, Option.bind_some]
  simp only [I_lit, J_lit]
  rw [I_shl1 n0 (by omega), I_sub, I_toJ (a := 2 ^ (v 14).toNat - 1) (by omega) (by omega), in_I (by omega) (by omega) (by omega) (by omega) (by omega) (by omega), Option.bind_some, if_pos (decide_eq_true ⟨q0, q1⟩), bits_of (by omega) (by omega), Option.bind_some, if_neg (by rw [I_lt (by omega) (by omega) (by omega) (by omega)]; omega), M.areTwo R (by omega) (by omega) (by omega) (by omega), Option.bind_some, if_pos (decide_eq_true ⟨p0, p1, b0, b1, hne⟩), in_I (by omega) (by omega) (by omega) (by omega) (by omega) (by omega), Option.bind_some, if_pos (decide_eq_true ⟨w0, w1⟩), e1', e2]
  rfl
theorem MO.soonestN {h : AH} {v : Nat → Int} {g : Nat → Int → Int} {gl : Nat → Int → Int64} (M : MO h m v se g gl) (R : RI (g 1)) (n0 : 0 ≤ v 14) (n1 : v 14 ≤ 8) {q p b wh : Int} (q0 : -2147483648 ≤ q) (q1 : q < 2147483648) (p0 : -2147483648 ≤ p) (p1 : p < 2147483648) (b0 : -2147483648 ≤ b) (b1 : b < 2147483648) (w0 : -2147483648 ≤ wh) (w1 : wh < 2147483648) (no : ¬ sooOK (g 1) (v 14) q p b wh) : f9_soonest h m (I q) (I p) (I b) (I wh) = some (J (-1), h) := by
  have pz := p2nr n0 n1
  rw [f9_soonest, M.o, Option.bind_some, M.f14, Option.bind_some]
  simp only [I_lit, J_lit, J_neg]
  rw [I_shl1 n0 (by omega), I_sub, I_toJ (a := 2 ^ (v 14).toNat - 1) (by omega) (by omega), in_I (by omega) (by omega) (by omega) (by omega) (by omega) (by omega), Option.bind_some]
  by_cases z1 : 1 ≤ q ∧ q ≤ 2 ^ (v 14).toNat - 1
  · have cb := cn_nn (fun i => decide (bi q i = 1)) 8 0
    have la := Lst_all (q := q) (nr := (v 14).toNat) (by omega) (by omega) (by omega)
    have c8 : cn (fun i => decide (bi q i = 1)) 8 0 ≤ 8 := cb.2
    have l6 : (I 6 < I (cn (fun i => decide (bi q i = 1)) 8 0)) = (6 < cn (fun i => decide (bi q i = 1)) 8 0) := I_lt (by omega) (by omega) (by omega) (by omega)
    rw [if_pos (decide_eq_true z1), bits_of (by omega) (by omega), Option.bind_some]
    by_cases z2 : 6 < cn (fun i => decide (bi q i = 1)) 8 0
    · rw [if_pos (by rw [l6]; exact z2)]
    · rw [if_neg (by rw [l6]; exact z2), M.areTwo R p0 p1 b0 b1, Option.bind_some]
      by_cases z3 : 0 ≤ p ∧ p < g 1 4 ∧ 0 ≤ b ∧ b < g 1 4 ∧ p ≠ b
      · rw [if_pos (decide_eq_true z3), in_I (by omega) (by omega) (by omega) (by omega) (by omega) (by omega), Option.bind_some]
        by_cases z4 : 0 ≤ wh ∧ wh ≤ 6
        · exact absurd ⟨z1, by omega, z3, z4⟩ no
        · rw [if_neg (by rw [decide_eq_true_eq]; exact z4)]
      · rw [if_neg (by rw [decide_eq_true_eq]; exact z3)]
  · rw [if_neg (by rw [decide_eq_true_eq]; exact z1)]
end
