/-! surest: both sides -/
theorem bs_true : ∀ n : Nat, bs (fun _ => true) n = 2 ^ n - 1 := by
  intro n
  induction n with
  | zero => rfl
  | succ n ih =>
    simp only [bs]
    rw [ih, if_pos trivial, Int.pow_succ]
    omega
theorem bi_full {n : Nat} {k : Int} (k0 : 0 ≤ k) (k1 : k < n) : bi (2 ^ n - 1) k = 1 := by
  rw [← bs_true, bs_bi' _ _ k0 k1, if_pos rfl]
theorem bi_over {n : Nat} {k : Int} (k1 : (n : Int) ≤ k) : bi (2 ^ n - 1) k = 0 := by
  have : (0 : Int) < 2 ^ n := Int.pow_pos (by omega)
  exact bi_hi (k := n) (by omega) (by omega) k1
theorem Lst_full (n : Nat) : ∀ k : Nat, k ≤ n → (Lst (2 ^ n - 1) k).length = k ∧ ∀ j : Nat, j < k → (Lst (2 ^ n - 1) k).getD j 0 = j := by
  intro k
  induction k with
  | zero => intro _; exact ⟨rfl, fun j hj => by omega⟩
  | succ k ih =>
    intro hk
    obtain ⟨l, e⟩ := ih (by omega)
    rw [Lst, if_pos (bi_full (by omega) (by omega))]
    refine ⟨by rw [List.length_append, l]; rfl, fun j hj => ?_⟩
    by_cases z : j < k
    · rw [List.getD_eq_getElem?_getD, List.getElem?_append_left (by omega), ← List.getD_eq_getElem?_getD]
      exact e j z
    · have : j = k := by omega
      subst this
      rw [List.getD_eq_getElem?_getD, List.getElem?_append_right (by omega), l, Nat.sub_self]
      rfl
theorem Lst_stop (n : Nat) : ∀ d : Nat, Lst (2 ^ n - 1) (n + d) = Lst (2 ^ n - 1) n := by
  intro d
  induction d with
  | zero => rfl
  | succ d ih =>
    rw [show n + (d + 1) = n + d + 1 by omega, Lst, if_neg, List.append_nil, ih]
    have : bi (2 ^ n - 1) ((n + d : Nat) : Int) = 0 := bi_over (by omega)
    omega
theorem fo_cong2 {α : Type} {f g : Int → α → α} {S : Int → α → Prop} : ∀ (k : Nat) (i : Int) (a : α), (∀ j b, i ≤ j → j < i + k → S j b → f j b = g j b ∧ S (j + 1) (f j b)) → S i a → fo f k i a = fo g k i a := by
  intro k
  induction k with
  | zero => intro i a _ _; rfl
  | succ k ih =>
    intro i a hq hs
    simp only [fo]
    have h := hq i a (by omega) (by omega) hs
    rw [← h.1, ih (i + 1) _ (fun j b h1 h2 => hq j b (by omega) (by omega)) h.2]
theorem bsS_cong {ch ch' co co' : Int → Int} {n : Nat} (hc : ∀ j : Int, 0 ≤ j → j < n → ch j = ch' j) (ho : ∀ j : Int, 0 ≤ j → j < n → co j = co' j) (purse : Int) (m : Nat) (i b : Int) : bsS ch co n purse m i b = bsS ch' co' n purse m i b := by
  unfold bsS
  have a : ∀ q, pA ch q n 0 = pA ch' q n 0 := fun q => pA_cong q n 0 (fun j j0 j1 => hc j j0 (by omega))
  have c : ∀ q, pC co q n 0 = pC co' q n 0 := fun q => pC_cong q n 0 (fun j j0 j1 => ho j j0 (by omega))
  exact fo_cong _ _ _ fun j b _ _ => by simp only [a, c]
section
variable {h h' : AH} {x : Nat} {r : Int → Int} {c : Nat → Int → Int} {nr nm : Int} {ru : Int → Nat → Int} {rc sg cl : Int → Int → Int} {nc : Int → Int}
theorem XO.fillRow (O : XO h x nr nm) (W : WD h (x + 1) r c) (A : AQ h (x + 26) 5 8 (fun k => some (x + 35 + 3 * k.toNat))) {ww : Int → Int} (hw : AI h (x + 28) 0 10 ww) (F : ∀ k, 0 ≤ k → k < 8 → RDx h (x + 35 + 3 * k.toNat) (ru k) (rc k)) {sz : Int} {nn ch tk co : Int → Int} {wl : Int → Int64} (P : RO h (x + 29) sz nn ch tk co wl) (n0 : 0 ≤ nr) (n1 : nr ≤ 8) (hT : ∀ k, 0 ≤ k → k < nr → TXR (ru k) (rc k) (sg k) (cl k) (nc k)) {p b : Int} (p0 : 0 ≤ p) (p1 : p < r 4) (b0 : 0 ≤ b) (b1 : b < r 4) {q : Int} (q0 : 0 ≤ q) (q1 : q < 256) (hq : (Lst q nr.toNat).length ≤ 6) : ∃ h' w' sz' nn' ch' tk' co', f8_fillRow h x (I q) (I p) (I b) = some h' ∧ AI h' (x + 28) 0 10 w' ∧ (∀ k, 0 ≤ k → k < 8 → RDx h' (x + 35 + 3 * k.toNat) (ru k) (rc k)) ∧ RO h' (x + 29) sz' nn' ch' tk' co' wl ∧ RLs (Lst q nr.toNat) (fun k => cvl r p b (sg k) (cl k) (nc k)) (fun k => ru k 0) (fun k => ru k 1) sz' nn' ch' tk' co' ∧ Fr (x + 28) (x + 59) h h' := by
  have fu := FU_big
  obtain ⟨h1, w1, e1, A1, E1, F1⟩ := W.fill hw (by omega) p0 p1 b0 b1
  have P1 := P.fr F1 (by omega)
  obtain ⟨h2, e2, P2, F2⟩ := P1.clear
  have G : Fr (x + 28) (x + 59) h h2 := (F1.mono (by omega) (by omega)).trans (F2.mono (by omega) (by omega))
  have O2 := O.fr G (by omega)
  obtain ⟨h3, sz3, nn3, ch3, tk3, co3, e3, W3, R3, P3, L3, F3⟩ := XO.rowL (nm := nm) W.ri p0 p1 b0 b1 n0 n1 hT E1 q0 q1 hq FU h2 0 nn ch tk co wl 0 O2 (A.at (G.2 _ (by omega))) (A1.at (F2.2 _ (by omega))) (fun k k0 k1 => ((F k k0 k1).fr F1 (by omega)).fr F2 (by omega)) P2 ⟨rfl, fun j j0 j1 => by omega⟩ (by omega) n0 (by omega)
  refine ⟨h3, w1, sz3, nn3, ch3, tk3, co3, ?_, W3, R3, P3, L3, G.trans (F3.mono (by omega) (by omega))⟩
  have O1 := O.fr F1 (by omega)
  rw [f8_fillRow, O.o, Option.bind_some, O.f0, Option.bind_some, O.f8, Option.bind_some, e1, Option.bind_some, O1.f9, Option.bind_some, e2, Option.bind_some, I_0]
  exact e3
def suv (r : Int → Int) (p b : Int) (ru : Int → Nat → Int) (sg cl : Int → Int → Int) (nc : Int → Int) (n : Nat) (coins : Int) : Int := bsS (fun k => cvl r p b (sg k) (cl k) (nc k)) (fun k => ru k 1) n coins ((2 : Int) ^ n - 1).toNat 1 0
theorem cvl_rng (r : Int → Int) (p b : Int) (sg cl : Int → Int) (nc : Int) : 0 ≤ cvl r p b sg cl nc ∧ cvl r p b sg cl nc ≤ 1000 := ctv_rng _ _ _ _ _
theorem XO.surest (O : XO h x nr nm) (W : WD h (x + 1) r c) (A : AQ h (x + 26) 5 8 (fun k => some (x + 35 + 3 * k.toNat))) {ww : Int → Int} (hw : AI h (x + 28) 0 10 ww) (F : ∀ k, 0 ≤ k → k < 8 → RDx h (x + 35 + 3 * k.toNat) (ru k) (rc k)) {sz : Int} {nn ch tk co : Int → Int} {wl : Int → Int64} (P : RO h (x + 29) sz nn ch tk co wl) (n0 : 0 ≤ nr) (n1 : nr ≤ 8) (hT : ∀ k, 0 ≤ k → k < nr → TXR (ru k) (rc k) (sg k) (cl k) (nc k)) {p b coins : Int} (p0 : 0 ≤ p) (p1 : p < r 4) (b0 : 0 ≤ b) (b1 : b < r 4) (hne : p ≠ b) (u0 : 0 ≤ coins) (u1 : coins ≤ 9999) : ∃ h' w' sz' nn' ch' tk' co', f8_surest h x (I coins) (I p) (I b) = some (I (suv r p b ru sg cl nc (if nr < 6 then nr else 6).toNat coins), h') ∧ AI h' (x + 28) 0 10 w' ∧ (∀ k, 0 ≤ k → k < 8 → RDx h' (x + 35 + 3 * k.toNat) (ru k) (rc k)) ∧ RO h' (x + 29) sz' nn' ch' tk' co' wl ∧ Fr (x + 28) (x + 59) h h' := by
  have bb := W.ri.1
  obtain ⟨al, ea⟩ : ∃ al, al = if nr < 6 then nr else 6 := ⟨_, rfl⟩
  have a0 : 0 ≤ al ∧ al ≤ 6 ∧ al ≤ nr := by rw [ea]; split <;> omega
  rw [← ea]
  have pz := p2sz a0.1 a0.2.1
  have lf := Lst_full al.toNat al.toNat (Nat.le_refl _)
  have lst : Lst ((2 : Int) ^ al.toNat - 1) nr.toNat = Lst ((2 : Int) ^ al.toNat - 1) al.toNat := by
    have := Lst_stop al.toNat (nr - al).toNat
    rw [show al.toNat + (nr - al).toNat = nr.toNat by omega] at this
    exact this
  obtain ⟨h1, w1, s1, nn1, ch1, tk1, co1, e1, A1, R1, P1, L1, F1⟩ := O.fillRow W A hw F P n0 n1 hT p0 p1 b0 b1 (q := (2 : Int) ^ al.toNat - 1) (by omega) (by omega) (by rw [lst, lf.1]; omega)
  rw [lst] at L1
  have es : s1 = al := by rw [L1.1, lf.1]; omega
  subst es
  have row : ∀ j, 0 ≤ j → j < s1 → ch1 j = cvl r p b (sg j) (cl j) (nc j) ∧ co1 j = ru j 1 := fun j j0 j1 => by
    have := L1.2 j j0 j1
    have g := lf.2 j.toNat (by omega)
    rw [show ((j.toNat : Nat) : Int) = j by omega] at g
    rw [g] at this
    exact ⟨this.2.1, this.2.2.2⟩
  have su := P1.surest (fun j j0 j1 => by rw [(row j j0 j1).1]; exact cvl_rng _ _ _ _ _ _) (fun j j0 j1 => by rw [(row j j0 j1).2]; have := (hT j j0 (by omega)).2.2.2.2; omega) a0.1 a0.2.1 u0 u1
  rw [bsS_cong (ch' := fun k => cvl r p b (sg k) (cl k) (nc k)) (co' := fun k => ru k 1) (fun j j0 j1 => (row j j0 (by omega)).1) (fun j j0 j1 => (row j j0 (by omega)).2)] at su
  refine ⟨h1, w1, s1, nn1, ch1, tk1, co1, ?_, A1, R1, P1, F1⟩
  have O1 := O.fr F1 (by omega)
  have un := W.unlike (p := p) (q := b) (by omega) (by omega) (by omega) (by omega)
  rw [decide_eq_true ⟨p0, p1, b0, b1, hne⟩] at un
  have l1 : (I 6 < I nr) = (6 < nr) := I_lt (by omega) (by omega) (by omega) (by omega)
  have em : (if I 6 < I nr then I 6 else I nr) = I s1 := by
    by_cases z : 6 < nr
    · have z' : I 6 < I nr := by rw [l1]; exact z
      rw [if_pos z', ea, if_neg (by omega)]
    · have z' : ¬ I 6 < I nr := by rw [l1]; exact z
      rw [if_neg z', ea]
      by_cases z2 : nr < 6
      · rw [if_pos z2]
      · rw [if_neg z2]
        congr 1
        omega
  have sh := I_shl1 (i := s1) (by omega) (by omega)
  rw [f8_surest, O.o, Option.bind_some]
  simp only [I_lit]
  rw [isFrom_of (x := coins) (by omega) (by omega) (by omega) (by omega) (by omega) (by omega), Option.bind_some, if_pos (decide_eq_true ⟨u0, u1⟩), O.f0, Option.bind_some, un, Option.bind_some, if_pos rfl, O.f5, Option.bind_some, em, Option.bind_some, sh, I_sub, e1, Option.bind_some, O1.f9, Option.bind_some, su, Option.bind_some]
  rfl
theorem XO.surestN (O : XO h x nr nm) (W : WD h (x + 1) r c) {p b coins : Int} (p0 : -2147483648 ≤ p) (p1 : p < 2147483648) (b0 : -2147483648 ≤ b) (b1 : b < 2147483648) (u0 : -2147483648 ≤ coins) (u1 : coins < 2147483648) (no : ¬ ((0 ≤ coins ∧ coins ≤ 9999) ∧ 0 ≤ p ∧ p < r 4 ∧ 0 ≤ b ∧ b < r 4 ∧ p ≠ b)) : f8_surest h x (I coins) (I p) (I b) = some (I (-1), h) := by
  rw [f8_surest, O.o, Option.bind_some]
  simp only [I_lit, I_neg]
  rw [isFrom_of u0 u1 (by omega) (by omega) (by omega) (by omega), Option.bind_some]
  by_cases z : 0 ≤ coins ∧ coins ≤ 9999
  · have z2 : ¬ (0 ≤ p ∧ p < r 4 ∧ 0 ≤ b ∧ b < r 4 ∧ p ≠ b) := fun e => no ⟨z, e⟩
    rw [if_pos (decide_eq_true z), O.f0, Option.bind_some, W.unlike p0 p1 b0 b1, Option.bind_some, decide_eq_false z2, if_neg Bool.false_ne_true]
  · rw [if_neg (by simpa using z)]
end
section
variable {h h' : AH} {m : Nat} {v : Nat → Int} {se : Int64} {g : Nat → Int → Int} {gl : Nat → Int → Int64} {ru : Int → Nat → Int} {rc sg cl : Int → Int → Int} {nc : Int → Int}
theorem MO.surest (M : MO h m v se g gl) (R : RI (g 1)) (n0 : 0 ≤ v 14) (n1 : v 14 ≤ 8) (hT : ∀ k, 0 ≤ k → k < v 14 → (∀ j, g 3 (400 * k + j) = sg k j) ∧ (∀ j, g 5 (48 * k + j) = cl k j) ∧ g 6 k = nc k ∧ TXR (ru k) (rc k) (sg k) (cl k) (nc k)) (hC : ∀ k, 0 ≤ k → k < v 14 → g 8 k = ru k 1) {p b coins : Int} (p0 : 0 ≤ p) (p1 : p < g 1 4) (b0 : 0 ≤ b) (b1 : b < g 1 4) (hne : p ≠ b) (u0 : 0 ≤ coins) (u1 : coins ≤ 9999) : ∃ h' v' G gl', f9_surest h m (I coins) (I p) (I b) = some (I (suv (g 1) p b ru sg cl nc (if v 14 < 6 then v 14 else 6).toNat coins), h') ∧ MO h' m v' se (uf g 21 G) gl' ∧ (∀ j, j ≠ 26 → v' j = v j) ∧ Fr m (m + 24) h h' := by
  have bb := R.1
  have fu := FU_big
  obtain ⟨al, ea⟩ : ∃ al, al = if v 14 < 6 then v 14 else 6 := ⟨_, rfl⟩
  have a0 : 0 ≤ al ∧ al ≤ 6 ∧ al ≤ v 14 := by rw [ea]; split <;> omega
  rw [← ea]
  have pz := p2sz a0.1 a0.2.1
  have M0 : MO h m v se (uf g 21 (g 21)) gl := by rw [uf_same]; exact M
  obtain ⟨h1, v1, G1, gl1, e1, M1, H1, V1, F1⟩ := MO.s46 (g := g) M R p0 p1 b0 b1 (sg := sg) (cl := cl) (cd := rc) (sz := fun k => ru k 3) (nc := nc) (n := al) a0.2.1 (fun k k0 k1 => by
    have := hT k k0 (by omega)
    exact ⟨this.1, this.2.1, this.2.2.1, this.2.2.2.1⟩) (I coins) FU h v (g 21) gl 0 M0 (fun k k0 k1 => by omega) (by omega) a0.1 (by omega)
  refine ⟨h1, v1, G1, gl1, ?_, M1, V1, F1⟩
  have hc : ∀ i, 0 ≤ i → i < al → uf g 21 G1 21 i = cvl (g 1) p b (sg i) (cl i) (nc i) ∧ 0 ≤ cvl (g 1) p b (sg i) (cl i) (nc i) ∧ cvl (g 1) p b (sg i) (cl i) (nc i) ≤ 1000 := fun i i0 i1 => by
    rw [uf_eq, H1 i i0 i1]; exact ⟨rfl, cvl_rng _ _ _ _ _ _⟩
  have ho : ∀ i, 0 ≤ i → i < al → uf g 21 G1 8 i = ru i 1 ∧ 0 ≤ ru i 1 ∧ ru i 1 ≤ 999 := fun i i0 i1 => by
    have := (hT i i0 (by omega)).2.2.2.2.2.2
    rw [uf_ne (by omega), hC i i0 (by omega)]
    exact ⟨rfl, by omega⟩
  have st : f9_surest h m (I coins) (I p) (I b) = f9_surest_46 m (I coins) (I p) (I b) (I al) FU h (I 0) := by
    rw [f9_surest]
    simp only [I_lit, J_lit, I_neg]
    rw [M.o, Option.bind_some, in_I (by omega) (by omega) (by omega) (by omega) (by omega) (by omega), Option.bind_some, if_pos (decide_eq_true ⟨u0, u1⟩), M.areTwo R (by omega) (by omega) (by omega) (by omega), Option.bind_some, if_pos (decide_eq_true ⟨p0, p1, b0, b1, hne⟩), M.f14, Option.bind_some]
    by_cases z : v 14 < 6
    · rw [if_neg (by rw [I_le (by omega) (by omega) (by omega) (by omega)]; omega), Option.bind_some, ea, if_pos z]
    · rw [if_pos (by rw [I_le (by omega) (by omega) (by omega) (by omega)]; omega), ea, if_neg z]
  rw [st, e1]
  obtain ⟨f, hf⟩ : ∃ f, FU = f + 1 := ⟨FU - 1, by omega⟩
  have hz : ∀ j, al ≤ j → bi 0 j = 0 := fun j hj => by unfold bi; rw [Int.zero_ediv]; rfl
  obtain ⟨f', ef⟩ := M1.s106 (q := 0) (n := al) (by omega) (by omega) hz (fun k k0 k1 => by rw [(hc k k0 k1).1]; exact (hc k k0 k1).2) (fun v5 v6 v8 v9 => f9_surest_88 h1 m (I coins) (I al) f v5 v6 v8 v9) (I coins) (I al) (I 0) (J (-1)) (I 0) FU 1 0 0 (by omega) (by omega) (by omega)
  rw [Int.one_mul, Int.zero_add] at ef
  have eA : pA (uf g 21 G1 21) 0 (6 - 0 : Int).toNat 0 = pA (fun k => cvl (g 1) p b (sg k) (cl k) (nc k)) 0 al.toNat 0 * 1000 ^ (6 - al).toNat := by
    rw [show (6 - 0 : Int).toNat = al.toNat + (6 - al).toNat by omega, pA_split, pA_cong (ch' := fun k => cvl (g 1) p b (sg k) (cl k) (nc k)) 0 al.toNat 0 (fun j j0 j1 => (hc j j0 (by omega)).1), pA_none (6 - al).toNat _ (fun j j0 j1 => hz j (by omega))]
  have eC : pC (uf g 21 G1 8) 0 (6 - 0 : Int).toNat 0 = pC (fun k => ru k 1) 0 al.toNat 0 := by
    rw [show (6 - 0 : Int).toNat = al.toNat + (6 - al).toNat by omega, pC_split, pC_cong (co' := fun k => ru k 1) 0 al.toNat 0 (fun j j0 j1 => (ho j j0 (by omega)).1), pC_none (6 - al).toNat _ (fun j j0 j1 => hz j (by omega)), Int.add_zero]
  rw [eA, eC] at ef
  have eC0 : pC (fun k => ru k 1) 0 al.toNat 0 = 0 := pC_none _ _ (fun j _ _ => by unfold bi; rw [Int.zero_ediv]; rfl)
  have L := M1.s88 a0.1 a0.2.1 hc ho u0 u1 f 0 1 (by omega) (by omega) (by omega) (by omega) (by omega)
  have go : f9_surest_88 h1 m (I coins) (I al) FU (I 0) (J (-1)) (I 0) (I 0) = f9_surest_106 (fun v5 v6 v8 v9 => f9_surest_88 h1 m (I coins) (I al) f v5 v6 v8 v9) h1 m (I coins) (I al) (I 0) (J (-1)) (I 0) (I 0) FU (J 1) (I 0) (I 0) := by
    have q : ¬ I 1 <<< (I al &&& I 31) ≤ I 0 := by
      rw [I_shl1 a0.1 (by omega), I_le (by omega) (by omega) (by omega) (by omega)]; omega
    rw [show f9_surest_88 h1 m (I coins) (I al) FU = f9_surest_88 h1 m (I coins) (I al) (f + 1) from by rw [hf], f9_surest_88]
    simp only [I_lit, J_lit]
    rw [if_neg q, Option.bind_some]
  rw [go, ef]
  unfold suv
  rw [eC0] at L ⊢
  rw [← L]
  generalize pA (fun k => cvl (g 1) p b (sg k) (cl k) (nc k)) 0 al.toNat 0 * 1000 ^ (6 - al).toNat = B1
  simp (disch := omega) only [f9_surest_106, Option.bind_some, I_lit, I_neg, I_add, I_sub, I_mul, I_lt, I_le, I_eq, if_pos, if_neg, if_true, if_false, decide_eq_true_eq, J_lit, J_neg, J_add, J_sub, J_mul, J_lt, J_le, J_eq, I_toJ, in_of]
  rfl
theorem MO.surestN (M : MO h m v se g gl) (R : RI (g 1)) {p b coins : Int} (p0 : -2147483648 ≤ p) (p1 : p < 2147483648) (b0 : -2147483648 ≤ b) (b1 : b < 2147483648) (u0 : -2147483648 ≤ coins) (u1 : coins < 2147483648) (no : ¬ ((0 ≤ coins ∧ coins ≤ 9999) ∧ 0 ≤ p ∧ p < g 1 4 ∧ 0 ≤ b ∧ b < g 1 4 ∧ p ≠ b)) : f9_surest h m (I coins) (I p) (I b) = some (I (-1), h) := by
  rw [f9_surest]
  simp only [I_lit, J_lit, I_neg]
  rw [M.o, Option.bind_some, in_I u0 u1 (by omega) (by omega) (by omega) (by omega), Option.bind_some]
  by_cases z : 0 ≤ coins ∧ coins ≤ 9999
  · have z2 : ¬ (0 ≤ p ∧ p < g 1 4 ∧ 0 ≤ b ∧ b < g 1 4 ∧ p ≠ b) := fun e => no ⟨z, e⟩
    rw [if_pos (decide_eq_true z), M.areTwo R p0 p1 b0 b1, Option.bind_some, decide_eq_false z2, if_neg Bool.false_ne_true]
  · rw [if_neg (by simpa using z)]
end
