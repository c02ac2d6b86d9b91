/-! SOONEST of the class: the table of least WAITS, and the way through it -/
theorem ms_dec : ∀ q : Fin 64, ∀ i : Fin 6, bi (q.val : Int) (i.val : Int) = 1 → (Lst (q.val : Int) 6).erase (i.val : Int) = Lst ((q.val : Int) - 2 ^ i.val) 6 ∧ (2 : Int) ^ i.val ≤ (q.val : Int) ∧ (I (q.val : Int) &&& ((I 1 <<< (I (i.val : Int) &&& I 31)) ^^^ I (-1))) = I ((q.val : Int) - 2 ^ i.val) ∧ (i.val : Int) ∈ Lst (q.val : Int) 6 ∧ cn (fun j => decide (bi ((q.val : Int) - 2 ^ i.val) j = 1)) 8 0 = ((Lst ((q.val : Int) - 2 ^ i.val) 6).length : Int) ∧ (Lst ((q.val : Int) - 2 ^ i.val) 6).length + 1 = (Lst (q.val : Int) 6).length := by decide +kernel
theorem ms_of {q i : Int} (q0 : 0 ≤ q) (q1 : q < 64) (i0 : 0 ≤ i) (i1 : i < 6) (b : bi q i = 1) : (Lst q 6).erase i = Lst (q - 2 ^ i.toNat) 6 ∧ 1 ≤ (2 : Int) ^ i.toNat ∧ (2 : Int) ^ i.toNat ≤ q ∧ (I q &&& ((I 1 <<< (I i &&& I 31)) ^^^ I (-1))) = I (q - 2 ^ i.toNat) ∧ i ∈ Lst q 6 ∧ cn (fun j => decide (bi (q - 2 ^ i.toNat) j = 1)) 8 0 = ((Lst (q - 2 ^ i.toNat) 6).length : Int) ∧ (Lst (q - 2 ^ i.toNat) 6).length + 1 = (Lst q 6).length := by
  have d := ms_dec ⟨q.toNat, by omega⟩ ⟨i.toNat, by omega⟩
  have e1 : ((⟨q.toNat, by omega⟩ : Fin 64).val : Int) = q := Int.toNat_of_nonneg q0
  have e2 : ((⟨i.toNat, by omega⟩ : Fin 6).val : Int) = i := Int.toNat_of_nonneg i0
  rw [e1, e2] at d
  have d' := d b
  have p : (0 : Int) < 2 ^ i.toNat := Int.pow_pos (by omega)
  exact ⟨d'.1, by omega, d'.2.1, d'.2.2.1, d'.2.2.2.1, d'.2.2.2.2.1, d'.2.2.2.2.2⟩
theorem full_dec : ∀ n : Fin 7, Lst ((2 : Int) ^ n.val - 1) 6 = toL n.val id := by decide +kernel
theorem Lst_six {q : Int} {n : Nat} (q0 : 0 ≤ q) (q1 : q < 2 ^ n) (n6 : n ≤ 6) : Lst q 6 = Lst q n := by
  have : ∀ d, Lst q (n + d) = Lst q n := fun d => by
    induction d with
    | zero => rfl
    | succ d ih =>
      show Lst q (n + d) ++ (if bi q ((n + d : Nat) : Int) = 1 then [((n + d : Nat) : Int)] else []) = _
      rw [if_neg (by rw [bi_hi (k := n) q0 q1 (by omega)]; omega), List.append_nil, ih]
  have := this (6 - n)
  rw [show n + (6 - n) = 6 by omega] at this
  exact this
theorem Lst_lt {q : Int} : ∀ (k : Nat) (a : Int), a ∈ Lst q k → 0 ≤ a ∧ a < k ∧ bi q a = 1
  | 0, a, h => by simp [Lst] at h
  | k + 1, a, h => by
    have h' : a ∈ Lst q k ++ (if bi q k = 1 then [(k : Int)] else []) := h
    rcases List.mem_append.mp h' with z | z
    · have := Lst_lt k a z; exact ⟨this.1, by omega, this.2.2⟩
    · by_cases c : bi q k = 1
      · rw [if_pos c, List.mem_singleton] at z
        subst z
        exact ⟨by omega, by omega, c⟩
      · rw [if_neg c] at z; cases z
def mwt (tk ch : Int → Int) (q : Int) : Int := mwf tk ch (Lst q 6).length (Lst q 6)
def BIG : Int := 9000000000000000000
theorem mwf_big {tk ch : Int → Int} (t0 : ∀ a, 0 ≤ tk a ∧ tk a ≤ 99) (c0 : ∀ a, 0 ≤ ch a ∧ ch a ≤ 1000) {k : Nat} {S : List Int} (h : S.length = k) (k6 : k ≤ 6) : 0 ≤ mwf tk ch k S ∧ mwf tk ch k S < 9000000000000000000 := by
  have FAq := (PLf_FA (tk := tk) (ch := ch) (fun a => (t0 a).1) (fun a => (c0 a).1) k S h)
  obtain ⟨L, e⟩ := PLf_head k S h
  have le := FAq.2 S (by rw [e]; exact List.mem_cons_self)
  have wr := wai_rng t0 c0 S
  have pw : (1000 : Int) ^ S.length ≤ 1000 ^ 6 := by
    have a := Nat.pow_le_pow_right (show 0 < 1000 by omega) (show S.length ≤ 6 by omega)
    have e1 : ((1000 ^ S.length : Nat) : Int) = 1000 ^ S.length := by rw [Int.natCast_pow]; rfl
    have e2 : ((1000 ^ 6 : Nat) : Int) = 1000 ^ 6 := by rw [Int.natCast_pow]; rfl
    omega
  have pn : (0 : Int) ≤ 1000 ^ S.length := Int.pow_nonneg (by omega)
  have a := Int.mul_le_mul_of_nonneg_left pw (show (0 : Int) ≤ S.length * 99 by omega)
  have b := Int.mul_le_mul_of_nonneg_right (show (S.length : Int) * 99 ≤ 6 * 99 by omega) (show (0 : Int) ≤ 1000 ^ 6 by omega)
  exact ⟨mwf_nn (fun a => (t0 a).1) (fun a => (c0 a).1) k S h, by omega⟩
section
variable {h : AH} {a : Nat} {nn cr tr co : Int → Int} {wl : Int → Int64} {n : Nat} {tk ch : Int → Int}
/-- the row's numbers -/
def RW6 (n : Nat) (tr cr tk ch : Int → Int) : Prop := (∀ j : Int, 0 ≤ j → j < n → tr j = tk j ∧ cr j = ch j) ∧ (∀ a, 0 ≤ tk a ∧ tk a ≤ 99) ∧ (∀ a, 0 ≤ ch a ∧ ch a ≤ 1000)
theorem RO.waitOf (P : RO h a n nn cr tr co wl) {q : Int} (q0 : 0 ≤ q) (q1 : q < 64) : f4_waitOf h a (I q) = some (wl q) := by
  have l0 : (I q < I 0) = (q < 0) := I_lt (by omega) (by omega) (by omega) (by omega)
  have l1 : (I 64 ≤ I q) = (64 ≤ q) := I_le (by omega) (by omega) (by omega) (by omega)
  rw [f4_waitOf, P.o, Option.bind_some]
  simp only [I_lit]
  rw [if_neg (by rw [l0]; omega), P.f5, Option.bind_some, P.2.2.2.2.2.n, Option.bind_some, if_neg (by rw [l1]; omega), Option.bind_some, P.2.2.2.2.2.g q0 q1, Option.bind_some]
theorem ww_loop (P : RO h a n nn cr tr co wl) {i rest : Int} (i0 : 0 ≤ i) (i1 : i < 6) (r0 : 0 ≤ rest) (r1 : rest < 64) {W : Int} (eW : wl rest = J W) (c0 : 0 ≤ cr i) (c1 : cr i ≤ 1000) : ∀ (k f : Nat) (t : Int), k < f → k ≤ 20 → f4_waitWith_35 h a (I i) (I rest) f (J t) (I (k : Int)) = some (J (t * 1000 ^ k + cr i * W))
  | _, 0, _, hf, _ => by omega
  | 0, f + 1, t, hf, _ => by
    have l0 : (I ((0 : Nat) : Int) ≤ I 0) = (((0 : Nat) : Int) ≤ 0) := I_le (by omega) (by omega) (by omega) (by omega)
    rw [f4_waitWith_35]
    simp only [I_lit]
    rw [if_pos (by rw [l0]; omega), P.f1, Option.bind_some, P.2.2.1.g i0 i1, Option.bind_some, P.waitOf r0 r1, Option.bind_some, eW, I_toJ (by omega) (by omega), J_mul, J_add]
    simp
  | k + 1, f + 1, t, hf, hk => by
    have l0 : (I ((k + 1 : Nat) : Int) ≤ I 0) = (((k + 1 : Nat) : Int) ≤ 0) := I_le (by omega) (by omega) (by omega) (by omega)
    rw [f4_waitWith_35]
    simp only [I_lit, J_lit, I_neg]
    rw [if_neg (by rw [l0]; omega), Option.bind_some, Option.bind_some, J_mul, I_add, show ((k + 1 : Nat) : Int) + -1 = (k : Int) by omega, ww_loop P i0 i1 r0 r1 eW c0 c1 k f _ (by omega) (by omega), Int.pow_succ, Int.mul_assoc, Int.mul_comm 1000]
theorem RO.waitWith (P : RO h a n nn cr tr co wl) (n6 : n ≤ 6) (X : RW6 n tr cr tk ch) {q i : Int} (q0 : 0 ≤ q) (q1 : q < 2 ^ n) (i0 : 0 ≤ i) (i1 : i < n) (b : bi q i = 1) (hw : wl (q - 2 ^ i.toNat) = J (mwt tk ch (q - 2 ^ i.toNat))) : f4_waitWith h a (I q) (I i) = some (J (vla tk ch (Lst (q - 2 ^ i.toNat) 6).length (Lst q 6) i)) := by
  have fu := FU_big
  have p6 : (2 : Int) ^ n ≤ 64 := by
    have := Nat.pow_le_pow_right (show 0 < 2 by omega) n6
    have e : ((2 ^ n : Nat) : Int) = 2 ^ n := by rw [Int.natCast_pow]; rfl
    omega
  obtain ⟨m1, m2, m3, m4, m5, m6, m7⟩ := ms_of q0 (by omega) i0 (by omega) b
  have x := X.1 i i0 i1
  have tb := X.2.1 i
  have cb := X.2.2 i
  have l6 := (Lst_six (n := n) q0 q1 n6)
  have ll : (Lst q 6).length ≤ 6 := by
    have := Lst_cn q 6
    have c := (cn_nn (fun i => decide (bi q i = 1)) 6 0).2
    omega
  have lz : (I i < I 0) = (i < 0) := I_lt (by omega) (by omega) (by omega) (by omega)
  have l6' : (I i < I 6) = (i < 6) := I_lt (by omega) (by omega) (by omega) (by omega)
  have run := ww_loop P i0 (by omega) (rest := q - 2 ^ i.toNat) (by omega) (by omega) hw (by omega) (by omega) (Lst (q - 2 ^ i.toNat) 6).length FU (tr i) (by omega) (by omega)
  rw [f4_waitWith, P.o, Option.bind_some]
  simp only [I_lit, I_neg]
  rw [if_neg (by rw [lz]; omega), if_pos (by rw [l6']; omega), Option.bind_some, m4, P.f2, Option.bind_some, P.2.2.2.1.g i0 (by omega), Option.bind_some, bitCount_of (by omega) (by omega), Option.bind_some, m6, I_toJ (by omega) (by omega), run]
  unfold vla mwt
  rw [m1, x.1, x.2]
theorem acc_snoc {f : Int → Int} (L : List Int) (i : Int) : (L ++ [i]).foldl (fun acc a => ls acc (f a)) (-1) = ls (L.foldl (fun acc a => ls acc (f a)) (-1)) (f i) := by
  rw [List.foldl_append]; rfl
/-- one part of the READERS: its least WAIT -/
theorem part_run (n6 : n ≤ 6) (X : RW6 n tr cr tk ch) {q : Int} (q0 : 1 ≤ q) (q1 : q < 2 ^ n) (κ : AH → Int32 → Option AH) : ∀ (d i f : Nat) (h : AH) (wl : Int → Int64), RO h a n nn cr tr co wl → (∀ q' : Int, 0 ≤ q' → q' < q → wl q' = J (mwt tk ch q')) → wl q = J ((Lst q i).foldl (fun acc y => ls acc (vla tk ch ((Lst q 6).length - 1) (Lst q 6) y)) (-1)) → i + d = n → d < f → ∃ h' wl', f4_findLeastWaits_32 κ a (I q) f h (I (i : Int)) = κ h' (I (q + 1)) ∧ RO h' a n nn cr tr co wl' ∧ (∀ q' : Int, 0 ≤ q' → q' < q + 1 → wl' q' = J (mwt tk ch q')) ∧ Fr a (a + 6) h h'
  | _, _, 0, _, _, _, _, _, _, hf => by omega
  | 0, i, f + 1, h, wl, P, hl, hq, e, hf => by
    have l : (I (n : Int) ≤ I (i : Int)) = ((n : Int) ≤ i) := I_le (by omega) (by omega) (by omega) (by omega)
    refine ⟨h, wl, ?_, P, fun q' a0 a1 => ?_, Fr.refl _ _ _⟩
    · rw [f4_findLeastWaits_32, P.f4, Option.bind_some, if_pos (by rw [l]; omega), Option.bind_some]
      simp only [I_lit]
      rw [I_add]
    · by_cases z : q' = q
      · subst z
        have l6 := Lst_six (n := n) (by omega) q1 n6
        have lne : 1 ≤ (Lst q' 6).length := by
          have := L_ne (q := q') (nr := n) q0 q1 (by omega)
          rw [l6]; exact this
        rw [hq, show i = n by omega, ← l6]
        congr 1
        unfold mwt
        generalize hk : (Lst q' 6).length = k at lne
        cases k with
        | zero => omega
        | succ k => rfl
      · exact hl q' a0 (by omega)
  | d + 1, i, f + 1, h, wl, P, hl, hq, e, hf => by
    have p6 : (2 : Int) ^ n ≤ 64 := by
      have := Nat.pow_le_pow_right (show 0 < 2 by omega) n6
      have e : ((2 ^ n : Nat) : Int) = 2 ^ n := by rw [Int.natCast_pow]; rfl
      omega
    have l : (I (n : Int) ≤ I (i : Int)) = ((n : Int) ≤ i) := I_le (by omega) (by omega) (by omega) (by omega)
    have eL : Lst q (i + 1) = Lst q i ++ (if bi q (i : Int) = 1 then [(i : Int)] else []) := rfl
    have ll : (Lst q 6).length ≤ 6 := by
      have := Lst_cn q 6
      have c := (cn_nn (fun i => decide (bi q i = 1)) 6 0).2
      omega
    have vb : ∀ y ∈ Lst q 6, 0 ≤ vla tk ch ((Lst q 6).length - 1) (Lst q 6) y ∧ vla tk ch ((Lst q 6).length - 1) (Lst q 6) y < 9000000000000000000 := fun y hy => by
      have len : ((Lst q 6).erase y).length = (Lst q 6).length - 1 := List.length_erase_of_mem hy
      have lp : 0 < (Lst q 6).length := List.length_pos_of_mem hy
      have mb := mwf_big X.2.1 X.2.2 len (by omega)
      have tb := X.2.1 y
      have cb := X.2.2 y
      have mn := PLf_FA (tk := tk) (ch := ch) (fun a => (X.2.1 a).1) (fun a => (X.2.2 a).1) ((Lst q 6).length - 1) ((Lst q 6).erase y) len
      -- the WAIT of some order is as great at least
      have hd := PLf_head ((Lst q 6).length - 1) ((Lst q 6).erase y) len
      obtain ⟨L, eh⟩ := hd
      have le := mn.2 ((Lst q 6).erase y) (by rw [eh]; exact List.mem_cons_self)
      have wr := wai_rng X.2.1 X.2.2 (y :: (Lst q 6).erase y)
      have lc : (y :: (Lst q 6).erase y).length = (Lst q 6).length := by rw [List.length_cons, len]; omega
      have pw : (1000 : Int) ^ (Lst q 6).length ≤ 1000 ^ 6 := by
        have a := Nat.pow_le_pow_right (show 0 < 1000 by omega) ll
        have e1 : ((1000 ^ (Lst q 6).length : Nat) : Int) = 1000 ^ (Lst q 6).length := by rw [Int.natCast_pow]; rfl
        have e2 : ((1000 ^ 6 : Nat) : Int) = 1000 ^ 6 := by rw [Int.natCast_pow]; rfl
        omega
      have pn : (0 : Int) ≤ 1000 ^ (Lst q 6).length := Int.pow_nonneg (by omega)
      rw [lc] at wr
      have a1 := Int.mul_le_mul_of_nonneg_left pw (show (0 : Int) ≤ (Lst q 6).length * 99 by omega)
      have a2 := Int.mul_le_mul_of_nonneg_right (show ((Lst q 6).length : Int) * 99 ≤ 6 * 99 by omega) (show (0 : Int) ≤ 1000 ^ 6 by omega)
      have wv : vla tk ch ((Lst q 6).length - 1) (Lst q 6) y ≤ wai tk ch (y :: (Lst q 6).erase y) := by
        show tk y * 1000 ^ ((Lst q 6).length - 1) + ch y * mwf tk ch ((Lst q 6).length - 1) ((Lst q 6).erase y) ≤ tk y * 1000 ^ ((Lst q 6).erase y).length + ch y * wai tk ch ((Lst q 6).erase y)
        rw [len]
        have := Int.mul_le_mul_of_nonneg_left le cb.1
        omega
      refine ⟨Int.add_nonneg (Int.mul_nonneg tb.1 (Int.pow_nonneg (by omega))) (Int.mul_nonneg cb.1 mb.1), by omega⟩
    have accb : ∀ (L : List Int), (∀ y ∈ L, y ∈ Lst q 6) → -1 ≤ L.foldl (fun acc y => ls acc (vla tk ch ((Lst q 6).length - 1) (Lst q 6) y)) (-1) ∧ L.foldl (fun acc y => ls acc (vla tk ch ((Lst q 6).length - 1) (Lst q 6) y)) (-1) < 9000000000000000000 := fun L hL => by
      have lf := ls_fold (f := fun y => vla tk ch ((Lst q 6).length - 1) (Lst q 6) y) L (-1) (fun y hy => (vb y (hL y hy)).1) (by omega)
      rcases lf.1 with z | ⟨y, hy, z⟩
      · rw [z]; omega
      · rw [← z]; have := vb y (hL y hy); omega
    have sub : ∀ y ∈ Lst q i, y ∈ Lst q 6 := fun y hy => by
      have := Lst_lt i y hy
      exact (ms_of (by omega) (by omega) this.1 (by omega) this.2.2).2.2.2.2.1
    have ab := accb (Lst q i) sub
    generalize ea : (Lst q i).foldl (fun acc y => ls acc (vla tk ch ((Lst q 6).length - 1) (Lst q 6) y)) (-1) = acc at hq ab
    have br := bi_rng q (i : Int)
    have l60 : ∀ (s0 : Int64), f4_findLeastWaits_60 κ (fun h v2 => f4_findLeastWaits_32 κ a (I q) f h v2) h a (I q) (I (i : Int)) s0 = (if s0 < J 0 then f4_findLeastWaits_32 κ a (I q) f h (I ((i + 1 : Nat) : Int)) else if J acc < J 0 then (sL h (a + 5) (I q) s0).bind fun h95 => f4_findLeastWaits_32 κ a (I q) f h95 (I ((i + 1 : Nat) : Int)) else if J acc ≤ s0 then f4_findLeastWaits_32 κ a (I q) f h (I ((i + 1 : Nat) : Int)) else (sL h (a + 5) (I q) s0).bind fun h95 => f4_findLeastWaits_32 κ a (I q) f h95 (I ((i + 1 : Nat) : Int))) := fun s0 => by
      rw [f4_findLeastWaits_60]
      simp only [I_lit, J_lit, I_add, Option.bind_some, P.f5, P.2.2.2.2.2.g (show (0 : Int) ≤ q by omega) (show q < 64 by omega), hq, show (i : Int) + 1 = ((i + 1 : Nat) : Int) by omega]
    rw [f4_findLeastWaits_32, P.f4, Option.bind_some, if_neg (by rw [l]; omega), hasBit_of (by omega) (by omega) (by omega) (by omega), Option.bind_some]
    by_cases z : bi q (i : Int) = 1
    · obtain ⟨m1, m2, m3, m4, m5, m6, m7⟩ := ms_of (by omega) (by omega) (i := (i : Int)) (by omega) (by omega) z
      have lk : (Lst (q - 2 ^ (i : Int).toNat) 6).length = (Lst q 6).length - 1 := by omega
      have wwv := P.waitWith n6 X (by omega) q1 (i := (i : Int)) (by omega) (by omega) z (hl _ (by omega) (by omega))
      rw [lk] at wwv
      have vb1 := vb (i : Int) m5
      have ev : Lst q (i + 1) = Lst q i ++ [(i : Int)] := by rw [eL, if_pos z]
      have acc' : (Lst q (i + 1)).foldl (fun acc y => ls acc (vla tk ch ((Lst q 6).length - 1) (Lst q 6) y)) (-1) = ls acc (vla tk ch ((Lst q 6).length - 1) (Lst q 6) (i : Int)) := by
        rw [ev, acc_snoc (f := fun y => vla tk ch ((Lst q 6).length - 1) (Lst q 6) y), ea]
      generalize vla tk ch ((Lst q 6).length - 1) (Lst q 6) (i : Int) = vv at wwv vb1 acc'
      have j1 : (J vv < J 0) = (vv < 0) := J_lt (by omega) (by omega) (by omega) (by omega)
      have j2 : (J acc < J 0) = (acc < 0) := J_lt (by omega) (by omega) (by omega) (by omega)
      have j3 : (J acc ≤ J vv) = (acc ≤ vv) := J_le (by omega) (by omega) (by omega) (by omega)
      rw [if_pos (decide_eq_true z), wwv, Option.bind_some, l60, if_neg (by rw [j1]; omega)]
      have wr : ls acc vv = vv → ∃ h' wl', ((sL h (a + 5) (I q) (J vv)).bind fun h95 => f4_findLeastWaits_32 κ a (I q) f h95 (I ((i + 1 : Nat) : Int))) = κ h' (I (q + 1)) ∧ RO h' a n nn cr tr co wl' ∧ (∀ q' : Int, 0 ≤ q' → q' < q + 1 → wl' q' = J (mwt tk ch q')) ∧ Fr a (a + 6) h h' := fun es => by
        obtain ⟨h1, e1, A1, F1⟩ := P.2.2.2.2.2.set (i := q) (J vv) (by omega) (by omega)
        have P1 : RO h1 a n nn cr tr co (ul wl q (J vv)) := ⟨P.1.at (F1.2 _ (by omega)), P.2.1.at (F1.2 _ (by omega)), P.2.2.1.at (F1.2 _ (by omega)), P.2.2.2.1.at (F1.2 _ (by omega)), P.2.2.2.2.1.at (F1.2 _ (by omega)), A1⟩
        obtain ⟨h2, wl2, e2, P2, H2, F2⟩ := part_run n6 X q0 q1 κ d (i + 1) f h1 _ P1 (fun q' a0 a1 => by rw [ul_ne (by omega)]; exact hl q' a0 a1) (by rw [ul_eq, acc', es]) (by omega) (by omega)
        exact ⟨h2, wl2, by rw [e1, Option.bind_some, e2], P2, H2, (F1.mono (by omega) (by omega)).trans F2⟩
      by_cases c1 : acc < 0
      · rw [if_pos (by rw [j2]; exact c1)]
        exact wr (by unfold ls; rw [if_pos (.inl c1)])
      · rw [if_neg (by rw [j2]; exact c1)]
        by_cases c2 : acc ≤ vv
        · rw [if_pos (by rw [j3]; exact c2)]
          exact part_run n6 X q0 q1 κ d (i + 1) f h wl P hl (by rw [acc', hq]; unfold ls; rw [if_neg (by omega)]) (by omega) (by omega)
        · rw [if_neg (by rw [j3]; exact c2)]
          exact wr (by unfold ls; rw [if_pos (.inr (by omega))])
    · have ev : Lst q (i + 1) = Lst q i := by rw [eL, if_neg z, List.append_nil]
      have j1 : J (-1) < J 0 := by rw [J_lt (by omega) (by omega) (by omega) (by omega)]; omega
      rw [if_neg (by rw [decide_eq_true_eq]; exact z)]
      simp only [J_lit, J_neg]
      rw [l60, if_pos j1]
      exact part_run n6 X q0 q1 κ d (i + 1) f h wl P hl (by rw [ev, ea]; exact hq) (by omega) (by omega)
/-- all parts -/
theorem parts_run (n1 : 1 ≤ n) (n6 : n ≤ 6) (X : RW6 n tr cr tk ch) : ∀ (f : Nat) (h : AH) (wl : Int → Int64) (q : Int), RO h a n nn cr tr co wl → (∀ q' : Int, 0 ≤ q' → q' < q → wl q' = J (mwt tk ch q')) → 1 ≤ q → q ≤ 2 ^ n → 2 ^ n - q < f → ∃ h' wl', f4_findLeastWaits_2 a f h (I q) = some h' ∧ RO h' a n nn cr tr co wl' ∧ (∀ q' : Int, 0 ≤ q' → q' < 2 ^ n → wl' q' = J (mwt tk ch q')) ∧ Fr a (a + 6) h h'
  | 0, _, _, _, _, _, _, _, hf => by omega
  | f + 1, h, wl, q, P, hl, q0, q1, hf => by
    have fu := FU_big
    have p6 : (2 : Int) ^ n ≤ 64 := by
      have := Nat.pow_le_pow_right (show 0 < 2 by omega) n6
      have e : ((2 ^ n : Nat) : Int) = 2 ^ n := by rw [Int.natCast_pow]; rfl
      omega
    have sh : I 1 <<< (I (n : Int) &&& I 31) = I (2 ^ n) := by
      have := I_shl1 (i := (n : Int)) (by omega) (by omega)
      rw [Int.toNat_natCast] at this
      exact this
    have l1 : (I (2 ^ n) ≤ I q) = (2 ^ n ≤ q) := I_le (by omega) (by omega) (by omega) (by omega)
    have l2 : (I 64 ≤ I q) = (64 ≤ q) := I_le (by omega) (by omega) (by omega) (by omega)
    rw [f4_findLeastWaits_2, P.f4, Option.bind_some]
    simp only [I_lit, J_lit, J_neg]
    rw [sh]
    by_cases c : 2 ^ n ≤ q
    · rw [if_pos (by rw [l1]; exact c)]
      exact ⟨h, wl, rfl, P, fun q' a0 a1 => hl q' a0 (by omega), Fr.refl _ _ _⟩
    · obtain ⟨h1, e1, A1, F1⟩ := P.2.2.2.2.2.set (i := q) (J (-1)) (by omega) (by omega)
      have P1 : RO h1 a n nn cr tr co (ul wl q (J (-1))) := ⟨P.1.at (F1.2 _ (by omega)), P.2.1.at (F1.2 _ (by omega)), P.2.2.1.at (F1.2 _ (by omega)), P.2.2.2.1.at (F1.2 _ (by omega)), P.2.2.2.2.1.at (F1.2 _ (by omega)), A1⟩
      obtain ⟨h2, wl2, e2, P2, H2, F2⟩ := part_run n6 X q0 (by omega) (fun h v1 => f4_findLeastWaits_2 a f h v1) n 0 FU h1 _ P1 (fun q' a0 a1 => by rw [ul_ne (by omega)]; exact hl q' a0 a1) (by rw [ul_eq]; rfl) (by omega) (by omega)
      obtain ⟨h3, wl3, e3, P3, H3, F3⟩ := parts_run n1 n6 X f h2 wl2 (q + 1) P2 H2 (by omega) (by omega) (by omega)
      refine ⟨h3, wl3, ?_, P3, H3, ((F1.mono (by omega) (by omega)).trans F2).trans F3⟩
      have e2' : f4_findLeastWaits_32 (fun h v1 => f4_findLeastWaits_2 a f h v1) a (I q) FU h1 (I 0) = _ := e2
      rw [if_neg (by rw [l1]; exact c), P.f5, Option.bind_some, P.2.2.2.2.2.n, Option.bind_some, if_neg (by rw [l2]; omega), Option.bind_some, e1, Option.bind_some, e2', e3]
end
