/-! SOONEST of the class, whole -/
theorem fa_app {p : Int → Bool} : ∀ {L1 L2 : List Int}, (∀ y ∈ L1, p y = false) → fa p (L1 ++ L2) = fa p L2
  | [], _, _ => rfl
  | a :: L1, L2, h => by
    rw [List.cons_append]
    show (if p a = true then a else fa p (L1 ++ L2)) = _
    rw [if_neg (by rw [h a (List.mem_cons_self)]; simp), fa_app (fun y hy => h y (List.mem_cons_of_mem _ hy))]
theorem Lst_pre (q : Int) (i : Nat) : ∀ d : Nat, ∃ R, Lst q (i + d) = Lst q i ++ R
  | 0 => ⟨[], by rw [List.append_nil]; rfl⟩
  | d + 1 => by
    obtain ⟨R, e⟩ := Lst_pre q i d
    exact ⟨R ++ (if bi q ((i + d : Nat) : Int) = 1 then [((i + d : Nat) : Int)] else []), by
      show Lst q (i + d) ++ _ = _
      rw [e, List.append_assoc]; rfl⟩
theorem p64 {n : Nat} (n6 : n ≤ 6) : (2 : Int) ^ n ≤ 64 := by
  have := Nat.pow_le_pow_right (show 0 < 2 by omega) n6
  have e : ((2 ^ n : Nat) : Int) = 2 ^ n := by rw [Int.natCast_pow]; rfl
  omega
section
variable {h : AH} {a : Nat} {nn cr tr co : Int → Int} {wl : Int → Int64} {n : Nat} {tk ch : Int → Int}
def pf (tk ch : Int → Int) (any : Bool) (q : Int) (y : Int) : Bool := any || decide (vla tk ch ((Lst q 6).length - 1) (Lst q 6) y = mwt tk ch q)
theorem RO.vlaB (X : RW6 n tr cr tk ch) {q y : Int} (hy : y ∈ Lst q 6) : 0 ≤ vla tk ch ((Lst q 6).length - 1) (Lst q 6) y ∧ vla tk ch ((Lst q 6).length - 1) (Lst q 6) y < 9000000000000000000 := by
  have ll : (Lst q 6).length ≤ 6 := by
    have := Lst_cn q 6
    have c := (cn_nn (fun i => decide (bi q i = 1)) 6 0).2
    omega
  have len : ((Lst q 6).erase y).length = (Lst q 6).length - 1 := List.length_erase_of_mem hy
  have lp : 0 < (Lst q 6).length := List.length_pos_of_mem hy
  have mb := mwf_big X.2.1 X.2.2 len (by omega)
  have tb := X.2.1 y
  have cb := X.2.2 y
  have mn := PLf_FA (tk := tk) (ch := ch) (fun a => (X.2.1 a).1) (fun a => (X.2.2 a).1) ((Lst q 6).length - 1) ((Lst q 6).erase y) len
  obtain ⟨L, eh⟩ := PLf_head ((Lst q 6).length - 1) ((Lst q 6).erase y) len
  have le := mn.2 ((Lst q 6).erase y) (by rw [eh]; exact List.mem_cons_self)
  have wr := wai_rng X.2.1 X.2.2 (y :: (Lst q 6).erase y)
  have lc : (y :: (Lst q 6).erase y).length = (Lst q 6).length := by rw [List.length_cons, len]; omega
  have pw : (1000 : Int) ^ (Lst q 6).length ≤ 1000 ^ 6 := by
    have a := Nat.pow_le_pow_right (show 0 < 1000 by omega) ll
    have e1 : ((1000 ^ (Lst q 6).length : Nat) : Int) = 1000 ^ (Lst q 6).length := by rw [Int.natCast_pow]; rfl
    have e2 : ((1000 ^ 6 : Nat) : Int) = 1000 ^ 6 := by rw [Int.natCast_pow]; rfl
    omega
  have pn : (0 : Int) ≤ 1000 ^ (Lst q 6).length := Int.pow_nonneg (by omega)
  rw [lc] at wr
  have a1 := Int.mul_le_mul_of_nonneg_left pw (show (0 : Int) ≤ (Lst q 6).length * 99 by omega)
  have a2 := Int.mul_le_mul_of_nonneg_right (show ((Lst q 6).length : Int) * 99 ≤ 6 * 99 by omega) (show (0 : Int) ≤ 1000 ^ 6 by omega)
  have wv : vla tk ch ((Lst q 6).length - 1) (Lst q 6) y ≤ wai tk ch (y :: (Lst q 6).erase y) := by
    show tk y * 1000 ^ ((Lst q 6).length - 1) + ch y * mwf tk ch ((Lst q 6).length - 1) ((Lst q 6).erase y) ≤ tk y * 1000 ^ ((Lst q 6).erase y).length + ch y * wai tk ch ((Lst q 6).erase y)
    rw [len]
    have := Int.mul_le_mul_of_nonneg_left le cb.1
    omega
  exact ⟨Int.add_nonneg (Int.mul_nonneg tb.1 (Int.pow_nonneg (by omega))) (Int.mul_nonneg cb.1 mb.1), by omega⟩
theorem first_run (P : RO h a n nn cr tr co wl) (n6 : n ≤ 6) (X : RW6 n tr cr tk ch) (hw : ∀ q' : Int, 0 ≤ q' → q' < 2 ^ n → wl q' = J (mwt tk ch q')) {q : Int} (q0 : 0 ≤ q) (q1 : q < 2 ^ n) (any : Bool) : ∀ (d i f : Nat), i + d = n → d < f → (∀ y ∈ Lst q i, pf tk ch any q y = false) → f4_firstOf_2 h a (I q) any f (I (i : Int)) = some (I (fa (pf tk ch any q) (Lst q 6)))
  | _, _, 0, _, hf, _ => by omega
  | 0, i, f + 1, e, hf, hp => by
    have l : (I (n : Int) ≤ I (i : Int)) = ((n : Int) ≤ i) := I_le (by omega) (by omega) (by omega) (by omega)
    rw [f4_firstOf_2, P.f4, Option.bind_some, if_pos (by rw [l]; omega), Lst_six q0 q1 n6]
    have en : i = n := by omega
    subst en
    have := fa_app (L2 := []) hp
    rw [List.append_nil] at this
    rw [this]
    rfl
  | d + 1, i, f + 1, e, hf, hp => by
    have p6 := p64 n6
    have l : (I (n : Int) ≤ I (i : Int)) = ((n : Int) ≤ i) := I_le (by omega) (by omega) (by omega) (by omega)
    have eL : Lst q (i + 1) = Lst q i ++ (if bi q (i : Int) = 1 then [(i : Int)] else []) := rfl
    have c1 : (i : Int) + 1 = ((i + 1 : Nat) : Int) := by omega
    rw [f4_firstOf_2, P.f4, Option.bind_some, if_neg (by rw [l]; omega), hasBit_of q0 (by omega) (by omega) (by omega), Option.bind_some]
    by_cases z : bi q (i : Int) = 1
    · obtain ⟨m1, m2, m3, m4, m5, m6, m7⟩ := ms_of q0 (by omega) (i := (i : Int)) (by omega) (by omega) z
      have lk : (Lst (q - 2 ^ (i : Int).toNat) 6).length = (Lst q 6).length - 1 := by omega
      have ev : Lst q (i + 1) = Lst q i ++ [(i : Int)] := by rw [eL, if_pos z]
      have hit : pf tk ch any q (i : Int) = true → fa (pf tk ch any q) (Lst q 6) = (i : Int) := fun hpf => by
        obtain ⟨R, eR⟩ := Lst_pre q (i + 1) (n - (i + 1))
        rw [show i + 1 + (n - (i + 1)) = n by omega, ev, List.append_assoc] at eR
        rw [Lst_six q0 q1 n6, eR, fa_app hp]
        exact if_pos hpf
      have miss : pf tk ch any q (i : Int) = false → ∀ y ∈ Lst q (i + 1), pf tk ch any q y = false := fun hpf y hy => by
        rw [ev] at hy
        rcases List.mem_append.mp hy with w | w
        · exact hp y w
        · rw [List.mem_singleton] at w; subst w; exact hpf
      rw [if_pos (decide_eq_true z)]
      cases any with
      | true => rw [if_pos rfl, hit rfl]
      | false =>
        have wwv := P.waitWith n6 X q0 q1 (i := (i : Int)) (by omega) (by omega) z (hw _ (by omega) (by omega))
        rw [lk] at wwv
        have vb1 := RO.vlaB X m5
        have mb := mwf_big X.2.1 X.2.2 (k := (Lst q 6).length) (S := Lst q 6) rfl (by
          have := Lst_cn q 6
          have c := (cn_nn (fun i => decide (bi q i = 1)) 6 0).2
          omega)
        have je : (J (vla tk ch ((Lst q 6).length - 1) (Lst q 6) (i : Int)) = J (mwt tk ch q)) = (vla tk ch ((Lst q 6).length - 1) (Lst q 6) (i : Int) = mwt tk ch q) := J_eq (by omega) (by omega) (by unfold mwt; omega) (by unfold mwt; omega)
        rw [if_neg (by simp), wwv, Option.bind_some, P.waitOf q0 (by omega), Option.bind_some, hw q q0 q1]
        by_cases y : vla tk ch ((Lst q 6).length - 1) (Lst q 6) (i : Int) = mwt tk ch q
        · rw [if_pos (by rw [je]; exact y), hit (by unfold pf; rw [decide_eq_true y]; rfl)]
        · rw [if_neg (by rw [je]; exact y), Option.bind_some]
          simp only [I_lit]
          rw [I_add, c1]
          exact first_run P n6 X hw q0 q1 false d (i + 1) f (by omega) (by omega) (miss (by unfold pf; rw [decide_eq_false y]; rfl))
    · have ev : Lst q (i + 1) = Lst q i := by rw [eL, if_neg z, List.append_nil]
      rw [if_neg (by rw [decide_eq_true_eq]; exact z), Option.bind_some]
      simp only [I_lit]
      rw [I_add, c1]
      exact first_run P n6 X hw q0 q1 any d (i + 1) f (by omega) (by omega) (by rw [ev]; exact hp)
theorem way_run (P : RO h a n nn cr tr co wl) (n6 : n ≤ 6) (X : RW6 n tr cr tk ch) (hw : ∀ q' : Int, 0 ≤ q' → q' < 2 ^ n → wl q' = J (mwt tk ch q')) {pl : Int} (pl0 : 0 ≤ pl) (pl1 : pl ≤ 6) : ∀ (k i f : Nat) (q : Int) (any : Bool), 0 ≤ q → q < 2 ^ n → (Lst q 6).length = k → i + k = n → k < f → (i : Int) ≤ pl → f4_readerInPlace_14 h a (I pl) f (I q) any (I (i : Int)) = some (I (if pl < n then nn ((if any = true then Lst q 6 else bof tk ch k (Lst q 6)).getD (pl - i).toNat 0) else -1))
  | _, _, 0, _, _, _, _, _, _, hf, _ => by omega
  | 0, i, f + 1, q, any, q0, q1, hk, e, hf, hi => by
    have l : (I (n : Int) ≤ I (i : Int)) = ((n : Int) ≤ i) := I_le (by omega) (by omega) (by omega) (by omega)
    rw [f4_readerInPlace_14, P.f4, Option.bind_some, if_pos (by rw [l]; omega), if_neg (by omega)]
    rfl
  | k + 1, i, f + 1, q, any, q0, q1, hk, e, hf, hi => by
    have fu := FU_big
    have p6 := p64 n6
    have l : (I (n : Int) ≤ I (i : Int)) = ((n : Int) ≤ i) := I_le (by omega) (by omega) (by omega) (by omega)
    have fr := first_run P n6 X hw q0 q1 any n 0 FU (by omega) (by omega) (fun y hy => by cases hy)
    have ef : f4_firstOf h a (I q) any = some (I (fa (pf tk ch any q) (Lst q 6))) := by
      rw [f4_firstOf, P.o, Option.bind_some]
      simp only [I_lit]
      exact fr
    -- the first is one of them, and heads the way
    have em : mwt tk ch q = mwf tk ch (k + 1) (Lst q 6) := by unfold mwt; rw [hk]
    have ex : ∃ y ∈ Lst q 6, pf tk ch any q y = true := by
      obtain ⟨y, hy, ey⟩ := (mwf_min (tk := tk) (ch := ch) (fun a => (X.2.1 a).1) (fun a => (X.2.2 a).1) hk).1
      refine ⟨y, hy, ?_⟩
      unfold pf
      rw [hk, em, show k + 1 - 1 = k by omega, decide_eq_true ey, Bool.or_true]
    obtain ⟨pt, S1, S2, eS, nS⟩ := fa_split ex
    have path : (if any = true then Lst q 6 else bof tk ch (k + 1) (Lst q 6)) = fa (pf tk ch any q) (Lst q 6) :: (if (any || decide (ch (fa (pf tk ch any q) (Lst q 6)) = 0)) = true then (Lst q 6).erase (fa (pf tk ch any q) (Lst q 6)) else bof tk ch k ((Lst q 6).erase (fa (pf tk ch any q) (Lst q 6)))) := by
      cases any with
      | true =>
        simp only [Bool.true_or, if_true]
        cases hL : Lst q 6 with
        | nil => rw [hL] at hk; cases hk
        | cons s L =>
          have : fa (pf tk ch true q) (s :: L) = s := if_pos rfl
          rw [this, List.erase_cons_head]
      | false =>
        have same : (fun y => decide (vla tk ch k (Lst q 6) y = mwf tk ch (k + 1) (Lst q 6))) = pf tk ch false q := by
          funext y
          unfold pf
          rw [hk, em, Bool.false_or]
          rfl
        simp only [Bool.false_or, decide_eq_true_eq, Bool.false_eq_true, if_false]
        show fa _ _ :: _ = _
        rw [same]
    generalize hF : fa (pf tk ch any q) (Lst q 6) = F at *
    have mem : F ∈ Lst q 6 := by rw [eS]; exact List.mem_append_right _ (List.mem_cons_self)
    have l6 := Lst_six (n := n) q0 q1 n6
    have bF := Lst_lt n F (by rw [← l6]; exact mem)
    obtain ⟨m1, m2, m3, m4, m5, m6, m7⟩ := ms_of q0 (by omega) bF.1 (by omega) bF.2.2
    have lF0 : (I F < I 0) = (F < 0) := I_lt (by omega) (by omega) (by omega) (by omega)
    have lF6 : (I F < I 6) = (F < 6) := I_lt (by omega) (by omega) (by omega) (by omega)
    have lip : (I (i : Int) = I pl) = ((i : Int) = pl) := I_eq (by omega) (by omega) (by omega) (by omega)
    have xF := X.1 F bF.1 bF.2.1
    have cF := X.2.2 F
    have lc : (I (cr F) = I 0) = (cr F = 0) := I_eq (by omega) (by omega) (by omega) (by omega)
    have c1 : (i : Int) + 1 = ((i + 1 : Nat) : Int) := by omega
    have next : ∀ any' : Bool, any' = (any || decide (ch F = 0)) → (i : Int) ≠ pl → f4_readerInPlace_14 h a (I pl) f (I (q - 2 ^ F.toNat)) any' (I ((i + 1 : Nat) : Int)) = some (I (if pl < n then nn ((if any = true then Lst q 6 else bof tk ch (k + 1) (Lst q 6)).getD (pl - i).toNat 0) else -1)) := fun any' ea hne => by
      have ih := way_run P n6 X hw pl0 pl1 k (i + 1) f (q - 2 ^ F.toNat) any' (by omega) (by omega) (by omega) (by omega) (by omega) (by omega)
      rw [ih, path, show (pl - (i : Int)).toNat = (pl - ((i + 1 : Nat) : Int)).toNat + 1 by omega, List.getD_cons_succ, ← ea, m1]
    rw [f4_readerInPlace_14, P.f4, Option.bind_some, if_neg (by rw [l]; omega), ef, Option.bind_some]
    simp only [I_lit, I_neg]
    rw [if_neg (by rw [lF0]; omega), if_pos (by rw [lF6]; omega)]
    by_cases z : (i : Int) = pl
    · rw [if_pos (by rw [lip]; exact z), P.f0, Option.bind_some, P.2.1.g bF.1 (by omega), Option.bind_some, if_pos (by omega), path, show (pl - (i : Int)).toNat = 0 by omega]
      rfl
    · rw [if_neg (by rw [lip]; exact z)]
      cases any with
      | true =>
        rw [if_pos rfl, m4, Option.bind_some, Option.bind_some, I_add, c1]
        exact next true rfl z
      | false =>
        rw [if_neg (by simp), P.f1, Option.bind_some, P.2.2.1.g bF.1 (by omega), Option.bind_some]
        by_cases w : ch F = 0
        · rw [if_pos (by rw [lc, xF.2]; exact w), m4, Option.bind_some, Option.bind_some, I_add, c1]
          exact next true (by rw [decide_eq_true w]; rfl) z
        · rw [if_neg (by rw [lc, xF.2]; exact w), m4, Option.bind_some, Option.bind_some, I_add, c1]
          exact next false (by rw [decide_eq_false w]; rfl) z
end
section
variable {x : Nat} {r : Int → Int} {c : Nat → Int → Int} {nr nm : Int} {ru : Int → Nat → Int} {rc sg cl : Int → Int → Int} {nc : Int → Int} {h : AH}
theorem XO.soonest (O : XO h x nr nm) (W : WD h (x + 1) r c) (A : AQ h (x + 26) 5 8 (fun k => some (x + 35 + 3 * k.toNat))) {ww : Int → Int} (hw : AI h (x + 28) 0 10 ww) (F : ∀ k, 0 ≤ k → k < 8 → RDx h (x + 35 + 3 * k.toNat) (ru k) (rc k)) {sz : Int} {nn ch tk co : Int → Int} {wl : Int → Int64} (P : RO h (x + 29) sz nn ch tk co wl) (z0 : wl 0 = J 0) (n0 : 0 ≤ nr) (n1 : nr ≤ 8) (hT : ∀ k, 0 ≤ k → k < nr → TXR (ru k) (rc k) (sg k) (cl k) (nc k)) {q p b wh : Int} (ok : sooOK r nr q p b wh) : ∃ h' w' sz' nn' ch' tk' co' wl', f8_soonest h x (I q) (I p) (I b) (I wh) = some (J (soo (fun k => ru k 0) (fun k => cvl r p b (sg k) (cl k) (nc k)) q nr.toNat wh), h') ∧ AI h' (x + 28) 0 10 w' ∧ (∀ k, 0 ≤ k → k < 8 → RDx h' (x + 35 + 3 * k.toNat) (ru k) (rc k)) ∧ RO h' (x + 29) sz' nn' ch' tk' co' wl' ∧ wl' 0 = J 0 ∧ Fr (x + 28) (x + 59) h h' := by
  have fu := FU_big
  obtain ⟨⟨q0, q1⟩, c6, ⟨p0, p1, b0, b1, hne⟩, w0, w1⟩ := ok
  have bb := W.ri.1
  have pz := p2nr n0 n1
  have la := Lst_all (q := q) (nr := nr.toNat) (by omega) (by omega) (by omega)
  have cb := cn_nn (fun i => decide (bi q i = 1)) 8 0
  obtain ⟨f1, f2, f3, f4, f5⟩ := soo_facts (q := q) (nr := nr.toNat) (tf := fun k => ru k 0) (cf := fun k => cvl r p b (sg k) (cl k) (nc k)) q0 (by omega) (by omega) (fun k k0 k1 => by have := hT k k0 (by omega); exact ⟨by have := this.2.2.1; omega, this.2.2.2.1⟩) (fun k k0 k1 => cvl_rng _ _ _ _ _ _)
  have L6 : (Lst q nr.toNat).length ≤ 6 := by omega
  obtain ⟨h1, w1', sz1, nn1, ch1, tk1, co1, e1, A1, D1, P1, RL1, F1⟩ := XO.fillRow O W A hw F P n0 n1 hT p0 p1 b0 b1 (q := q) (by omega) (by omega) L6
  obtain ⟨esz, RL2⟩ := RL1
  rw [esz] at P1 RL2
  have X : RW6 (Lst q nr.toNat).length tk1 ch1 (tkL q nr.toNat fun k => ru k 0) (tkL q nr.toNat fun k => cvl r p b (sg k) (cl k) (nc k)) := ⟨fun j j0 j1 => by
    have := RL2 j j0 j1
    unfold tkL
    rw [if_pos ⟨j0, j1⟩, if_pos ⟨j0, j1⟩]
    exact ⟨this.2.2.1, this.2.1⟩, f4, f5⟩
  have O1 := O.fr F1 (by omega)
  obtain ⟨h2, wl2, e2, P2, H2, F2⟩ := parts_run f1 L6 X FU h1 wl 1 P1 (fun q' a0 a1 => by
    rw [show q' = 0 by omega, z0]
    rfl) (Int.le_refl _) (by
      have : (1 : Nat) ≤ 2 ^ (Lst q nr.toNat).length := Nat.pow_pos (by omega)
      have e : ((2 ^ (Lst q nr.toNat).length : Nat) : Int) = 2 ^ (Lst q nr.toNat).length := by rw [Int.natCast_pow]; rfl
      omega) (by have := p64 L6; omega)
  have P2' : RO h2 (x + 29) ((Lst q nr.toNat).length : Int) nn1 ch1 tk1 co1 wl2 := P2
  have O2 := O1.fr F2 (by omega)
  have pp : (1 : Int) ≤ 2 ^ (Lst q nr.toNat).length ∧ (2 : Int) ^ (Lst q nr.toNat).length ≤ 64 := by
    have : (1 : Nat) ≤ 2 ^ (Lst q nr.toNat).length := Nat.pow_pos (by omega)
    have e : ((2 ^ (Lst q nr.toNat).length : Nat) : Int) = 2 ^ (Lst q nr.toNat).length := by rw [Int.natCast_pow]; rfl
    exact ⟨by omega, p64 L6⟩
  have full : Lst ((2 : Int) ^ (Lst q nr.toNat).length - 1) 6 = toL (Lst q nr.toNat).length id := full_dec ⟨(Lst q nr.toNat).length, by omega⟩
  have flen : (Lst ((2 : Int) ^ (Lst q nr.toNat).length - 1) 6).length = (Lst q nr.toNat).length := by rw [full, toL_len]
  have sh : I 1 <<< (I ((Lst q nr.toNat).length : Int) &&& I 31) = I (2 ^ (Lst q nr.toNat).length) := by
    have := I_shl1 (i := ((Lst q nr.toNat).length : Int)) (by omega) (by omega)
    rw [Int.toNat_natCast] at this
    exact this
  refine ⟨h2, w1', _, nn1, ch1, tk1, co1, wl2, ?_, A1.at (F2.2 _ (by omega)), fun k k0 k1 => (D1 k k0 k1).fr F2 (by omega), P2', by rw [H2 0 (by omega) (by omega)]; rfl, F1.trans (F2.mono (by omega) (by omega))⟩
  have l6 : (I wh = I 6) = (wh = 6) := I_eq (by omega) (by omega) (by omega) (by omega)
  have lb : (I (cn (fun i => decide (bi q i = 1)) 8 0) ≤ I 6) = (cn (fun i => decide (bi q i = 1)) 8 0 ≤ 6) := I_le (by omega) (by omega) (by omega) (by omega)
  rw [f8_soonest, O.o, Option.bind_some, O.f5, Option.bind_some]
  simp only [I_lit, J_lit, I_neg, J_neg]
  rw [I_shl1 n0 (by omega), I_sub, isFrom_of (by omega) (by omega) (by omega) (by omega) (by omega) (by omega), Option.bind_some, if_pos (decide_eq_true ⟨q0, q1⟩), bitCount_of (by omega) (by omega), Option.bind_some, if_pos (by rw [lb]; exact c6), O.f0, Option.bind_some, W.unlike (by omega) (by omega) (by omega) (by omega), Option.bind_some, if_pos (decide_eq_true ⟨p0, p1, b0, b1, hne⟩), isFrom_of (by omega) (by omega) (by omega) (by omega) (by omega) (by omega), Option.bind_some, if_pos (decide_eq_true ⟨w0, w1⟩), e1, Option.bind_some, O1.f9, Option.bind_some, f4_findLeastWaits, P1.o, Option.bind_some]
  simp only [I_lit]
  rw [e2, Option.bind_some]
  unfold soo sfin
  by_cases z : wh = 6
  · rw [if_pos (by rw [l6]; exact z), if_pos z, O2.f9, Option.bind_some, f4_leastWait, P2'.o, Option.bind_some, P2'.f4, Option.bind_some]
    simp only [I_lit]
    rw [sh, I_sub, P2'.waitOf (by omega) (by omega), Option.bind_some, Option.bind_some, H2 _ (by omega) (by omega)]
    unfold mwt
    rw [flen, full]
  · have wy := way_run P2' L6 X H2 w0 w1 (Lst q nr.toNat).length 0 FU (2 ^ (Lst q nr.toNat).length - 1) false (by omega) (by omega) flen (by omega) (by omega) (by omega)
    have wy' : f4_readerInPlace_14 h2 (x + 29) (I wh) FU (I (2 ^ (Lst q nr.toNat).length - 1)) false (I 0) = _ := wy
    have vb : ∀ v : Int, -1 ≤ v → v < 100 → (I v).toInt64 = J v := fun v a b => I_toJ (by omega) (by omega)
    rw [if_neg (by rw [l6]; exact z), if_neg z, O2.f9, Option.bind_some, f4_readerInPlace, P2'.o, Option.bind_some, P2'.f4, Option.bind_some]
    simp only [I_lit]
    rw [sh, I_sub, Option.bind_some, wy', Option.bind_some]
    by_cases y : wh < ((Lst q nr.toNat).length : Int)
    · rw [if_pos y, if_neg Bool.false_ne_true, if_neg (show ¬ ((Lst q nr.toNat).length : Int) ≤ wh by omega), full]
      rw [show (wh - ((0 : Nat) : Int)).toNat = wh.toNat by omega]
      -- the place's number is a place of the row
      have PF := (PLf_FA (tk := tkL q nr.toNat fun k => ru k 0) (ch := tkL q nr.toNat fun k => cvl r p b (sg k) (cl k) (nc k)) (fun a => (f4 a).1) (fun a => (f5 a).1) (Lst q nr.toNat).length (toL (Lst q nr.toNat).length id) toL_len).1
      obtain ⟨-, B1, B2, eB, -, -⟩ := PF
      have mem : bof (tkL q nr.toNat fun k => ru k 0) (tkL q nr.toNat fun k => cvl r p b (sg k) (cl k) (nc k)) (Lst q nr.toNat).length (toL (Lst q nr.toNat).length id) ∈ PLf (Lst q nr.toNat).length (toL (Lst q nr.toNat).length id) := by rw [eB]; exact List.mem_append_right _ (List.mem_cons_self)
      have rg := PLf_in (Lst q nr.toNat).length (toL (Lst q nr.toNat).length id) toL_len _ mem wh.toNat (by omega)
      obtain ⟨i, hi, ei⟩ := List.mem_map.mp rg
      rw [List.mem_range] at hi
      have ei' : (i : Int) = (bof (tkL q nr.toNat fun k => ru k 0) (tkL q nr.toNat fun k => cvl r p b (sg k) (cl k) (nc k)) (Lst q nr.toNat).length (toL (Lst q nr.toNat).length id)).getD wh.toNat 0 := ei
      have rr := RL2 (i : Int) (by omega) (by omega)
      have ff := f2 (i : Int) (by omega) (by omega)
      show some ((I (nn1 _)).toInt64, h2) = some (J (nnL q nr.toNat ((bof _ _ _ _).getD wh.toNat 0)), h2)
      rw [← ei', rr.1]
      show some ((I (nnL q nr.toNat (i : Int))).toInt64, h2) = _
      rw [vb _ (by omega) (by omega)]
    · rw [if_neg y, if_pos (by omega), vb _ (by omega) (by omega)]
theorem XO.soonestN (O : XO h x nr nm) (W : WD h (x + 1) r c) (n0 : 0 ≤ nr) (n1 : nr ≤ 8) {q p b wh : Int} (q0 : -2147483648 ≤ q) (q1 : q < 2147483648) (p0 : -2147483648 ≤ p) (p1 : p < 2147483648) (b0 : -2147483648 ≤ b) (b1 : b < 2147483648) (w0 : -2147483648 ≤ wh) (w1 : wh < 2147483648) (no : ¬ sooOK r nr q p b wh) : f8_soonest h x (I q) (I p) (I b) (I wh) = some (J (-1), h) := by
  have pz := p2nr n0 n1
  rw [f8_soonest, O.o, Option.bind_some, O.f5, Option.bind_some]
  simp only [I_lit, J_lit, I_neg, J_neg]
  rw [I_shl1 n0 (by omega), I_sub, isFrom_of (by omega) (by omega) (by omega) (by omega) (by omega) (by omega), Option.bind_some]
  by_cases z1 : 1 ≤ q ∧ q ≤ 2 ^ nr.toNat - 1
  · have cb := cn_nn (fun i => decide (bi q i = 1)) 8 0
    have lb : (I (cn (fun i => decide (bi q i = 1)) 8 0) ≤ I 6) = (cn (fun i => decide (bi q i = 1)) 8 0 ≤ 6) := I_le (by omega) (by omega) (by omega) (by omega)
    rw [if_pos (decide_eq_true z1), bitCount_of (by omega) (by omega), Option.bind_some]
    by_cases z2 : cn (fun i => decide (bi q i = 1)) 8 0 ≤ 6
    · rw [if_pos (by rw [lb]; exact z2), O.f0, Option.bind_some, W.unlike p0 p1 b0 b1, Option.bind_some]
      by_cases z3 : 0 ≤ p ∧ p < r 4 ∧ 0 ≤ b ∧ b < r 4 ∧ p ≠ b
      · rw [if_pos (decide_eq_true z3), isFrom_of (by omega) (by omega) (by omega) (by omega) (by omega) (by omega), Option.bind_some]
        by_cases z4 : 0 ≤ wh ∧ wh ≤ 6
        · exact absurd ⟨z1, z2, z3, z4⟩ no
        · rw [if_neg (by rw [decide_eq_true_eq]; exact z4)]
      · rw [if_neg (by rw [decide_eq_true_eq]; exact z3)]
    · rw [if_neg (by rw [lb]; exact z2)]
  · rw [if_neg (by rw [decide_eq_true_eq]; exact z1)]
end
