/-! copying, and a new one among the PLACES -/
def cp (f g : Int → Int) (sp dp n : Int) : Int → Int := fun k => if dp ≤ k ∧ k < dp + n then f (sp + (k - dp)) else g k
theorem cpI_of {h : AH} {a0 a1 : Nat} {n0 n1 : Int} {f g : Int → Int} (E0 : AI h a0 0 n0 f) (E1 : AI h a1 0 n1 g) {sp dp nn : Int} (h0 : 0 ≤ sp) (h1 : 0 ≤ dp) (h2 : 0 ≤ nn) (h3 : sp + nn ≤ n0) (h4 : dp + nn ≤ n1) : cpI h a0 (I sp) a1 (I dp) (I nn) = some (hU h a1 (.inl (0, n1.toNat, .inl fun k : Nat => I (cp f g sp dp nn k)))) := by
  have b0 := E0.2
  have b1 := E1.2
  have e : va_cpy (fun k : Nat => I (f k)) (fun k : Nat => I (g k)) sp.toNat dp.toNat nn.toNat = fun k : Nat => I (cp f g sp dp nn k) := by
    funext k
    by_cases c : dp ≤ k ∧ (k : Int) < dp + nn
    · rw [pk_cpy_in (by omega) (by omega), cp, if_pos c]
      congr 2
      omega
    · rw [pk_cpy_out (by omega), cp, if_neg c]
  have e2 : ¬ (I sp < 0 ∨ I dp < 0 ∨ I nn < 0 ∨ n0.toNat < (I sp).toNatClampNeg + (I nn).toNatClampNeg ∨ n1.toNat < (I dp).toNatClampNeg + (I nn).toNatClampNeg) := by
    rw [I_clamp h0 (by omega), I_clamp h1 (by omega), I_clamp h2 (by omega), I_0, I_lt (by omega) (by omega) (by omega) (by omega), I_lt (by omega) (by omega) (by omega) (by omega), I_lt (by omega) (by omega) (by omega) (by omega)]
    omega
  simp only [cpI, E0.x, E1.x, Option.bind_some]
  rw [if_neg e2, I_clamp h0 (by omega), I_clamp h1 (by omega), I_clamp h2 (by omega), e]
theorem cpI_ex {h : AH} {a0 a1 : Nat} {n0 n1 : Int} {f g : Int → Int} (E0 : AI h a0 0 n0 f) (E1 : AI h a1 0 n1 g) {sp dp nn : Int} (h0 : 0 ≤ sp) (h1 : 0 ≤ dp) (h2 : 0 ≤ nn) (h3 : sp + nn ≤ n0) (h4 : dp + nn ≤ n1) : ∃ h', cpI h a0 (I sp) a1 (I dp) (I nn) = some h' ∧ AI h' a1 0 n1 (cp f g sp dp nn) ∧ Fr a1 (a1 + 1) h h' := ⟨_, cpI_of E0 E1 h0 h1 h2 h3 h4, AI.u E1.2.1 E1.2.2, Fr.u _ _ (by omega) (by omega)⟩
theorem AI.set {h : AH} {a t : Nat} {n : Int} {g : Int → Int} (e : AI h a t n g) {i v : Int} (h0 : 0 ≤ i) (h1 : i < n) : ∃ h', sI t h a (I i) (I v) = some h' ∧ AI h' a t n (up g i v) ∧ Fr a (a + 1) h h' := ⟨_, e.s h0 h1, AI.u e.2.1 e.2.2, Fr.u _ _ (by omega) (by omega)⟩
theorem OB.set {h : AH} {a ci : Nat} {fs : List Value} (e : OB h a ci fs) (k : Nat) (v : Value) (hk : k < fs.length) : ∃ h', fS ci k h a v = some h' ∧ OB h' a ci (fs.set k v) ∧ Fr a (a + 1) h h' := ⟨_, e.s k v hk, OB.u, Fr.u _ _ (by omega) (by omega)⟩
def inK (K : Int → Int) (b n v : Int) : Int → Int := up (cp K K b (b + 1) (n - b)) b v
theorem inK_lo {K : Int → Int} {b n v k : Int} (h : k < b) : inK K b n v k = K k := by
  rw [inK, up_ne (by omega), cp, if_neg (by omega)]
theorem inK_at {K : Int → Int} {b n v : Int} : inK K b n v b = v := up_eq
theorem inK_hi {K : Int → Int} {b n v k : Int} (h : b < k) (h1 : k ≤ n) : inK K b n v k = K (k - 1) := by
  rw [inK, up_ne (by omega), cp, if_pos (by omega)]
  congr 1
  omega
theorem cn_shift {q q' : Int → Bool} : ∀ (k : Nat) (i : Int), (∀ j, i ≤ j → j < i + k → q' (j + 1) = q j) → cn q' k (i + 1) = cn q k i := by
  intro k
  induction k with
  | zero => intro i _; rfl
  | succ k ih =>
    intro i hq
    simp only [cn]
    rw [hq i (by omega) (by omega), ih (i + 1) (fun j h1 h2 => hq j (by omega) (by omega))]
theorem inK_cn {K Q : Int → Int} {b n key v : Int} (h0 : 0 ≤ b) (h1 : b ≤ n) (q : Int → Int → Bool) : cn (fun i => q (inK K b n key i) (inK Q b n v i)) (n + 1).toNat 0 = cn (fun i => q (K i) (Q i)) n.toNat 0 + (if q key v = true then 1 else 0) := by
  have e1 : cn (fun i => q (inK K b n key i) (inK Q b n v i)) b.toNat 0 = cn (fun i => q (K i) (Q i)) b.toNat 0 := cn_cong _ _ fun j g0 g1 => by
    rw [inK_lo (by omega), inK_lo (by omega)]
  have e2 : cn (fun i => q (inK K b n key i) (inK Q b n v i)) (n - b).toNat (b + 1) = cn (fun i => q (K i) (Q i)) (n - b).toNat b := cn_shift _ _ fun j g0 g1 => by
    rw [inK_hi (by omega) (by omega), inK_hi (by omega) (by omega), Int.add_sub_cancel]
  rw [show (n + 1).toNat = b.toNat + ((n - b).toNat + 1) by omega, cn_add, e1, cn, show (0 : Int) + b.toNat = b by omega, e2, inK_at, inK_at, show n.toNat = b.toNat + (n - b).toNat by omega, cn_add, show (0 : Int) + b.toNat = b by omega]
  omega
theorem inK_so {K : Int → Int} {n key : Int} (hn : 0 ≤ n) (s : so K n) (hk : kh K n key = false) : so (inK K (ff K n key) n key) (n + 1) := by
  obtain ⟨f1, f2, f3, f4⟩ := ff_spec key hn s
  have ne : ∀ i, 0 ≤ i → i < n → K i ≠ key := fun i h0 h1 e => by
    have := (kh_iff hn s).2 ⟨i, h0, h1, e⟩
    rw [hk] at this; cases this
  intro i j h0 h1 h2
  by_cases c1 : i < ff K n key
  · rw [inK_lo c1]
    by_cases c2 : j < ff K n key
    · rw [inK_lo c2]; exact s i j h0 h1 (by omega)
    · by_cases c3 : j = ff K n key
      · rw [c3, inK_at]; exact f3 i h0 c1
      · rw [inK_hi (by omega) (by omega)]
        by_cases c4 : i = j - 1
        · omega
        · exact s i (j - 1) h0 (by omega) (by omega)
  · by_cases c3 : i = ff K n key
    · rw [c3, inK_at, inK_hi (by omega) (by omega)]
      have := f4 (j - 1) (by omega) (by omega)
      have := ne (j - 1) (by omega) (by omega)
      omega
    · rw [inK_hi (by omega) (by omega), inK_hi (by omega) (by omega)]
      exact s (i - 1) (j - 1) (by omega) (by omega) (by omega)
theorem inK_pof {K Q : Int → Int} {n key v : Int} (hn : 0 ≤ n) (s : so K n) (hk : kh K n key = false) (key' : Int) : pof (inK K (ff K n key) n key) (inK Q (ff K n key) n v) (n + 1) key' = if key' = key then v else pof K Q n key' := by
  obtain ⟨f1, f2, f3, f4⟩ := ff_spec key hn s
  have s' := inK_so hn s hk
  by_cases c : key' = key
  · rw [if_pos c, c]
    have := pof_at (Q := inK Q (ff K n key) n v) s' (i := ff K n key) f1 (by omega)
    rw [inK_at, inK_at] at this
    exact this
  · rw [if_neg c]
    cases e : kh K n key'
    · rw [pof_no e, pof_no]
      cases e2 : kh (inK K (ff K n key) n key) (n + 1) key'
      · rfl
      · obtain ⟨i, h0, h1, h2⟩ := (kh_iff (by omega) s').1 e2
        have : kh K n key' = true := by
          rw [kh_iff hn s]
          by_cases c1 : i < ff K n key
          · rw [inK_lo c1] at h2; exact ⟨i, h0, by omega, h2⟩
          · by_cases c2 : i = ff K n key
            · rw [c2, inK_at] at h2; exact absurd h2.symm c
            · rw [inK_hi (by omega) (by omega)] at h2; exact ⟨i - 1, by omega, by omega, h2⟩
        rw [e] at this; cases this
    · obtain ⟨i, h0, h1, h2⟩ := (kh_iff hn s).1 e
      have g := pof_at (Q := Q) s h0 h1
      rw [h2] at g
      rw [g]
      by_cases c1 : i < ff K n key
      · have := pof_at (Q := inK Q (ff K n key) n v) s' (i := i) h0 (by omega)
        rw [inK_lo c1, inK_lo c1, h2] at this
        exact this
      · have := pof_at (Q := inK Q (ff K n key) n v) s' (i := i + 1) (by omega) (by omega)
        rw [inK_hi (by omega) (by omega), inK_hi (by omega) (by omega), Int.add_sub_cancel, h2] at this
        exact this
section
variable {h : AH} {p : Nat} {cap n : Int} {K Q : Int → Int}
theorem PL.insF (P : PL h p cap n K Q) {key v : Int} (k0 : 0 ≤ key) (k1 : key < 1000000) (g : cap ≤ n ∨ kh K n key = true) : f2_insert h p (I key) (I v) = some (I (-1), h) := by
  have b := P.2.2.2.2.2
  obtain ⟨f1, f2, -, -⟩ := P.ffs key
  obtain ⟨x, e, x0, x1, x2⟩ := P.keyFF k0 (by omega)
  by_cases c : cap ≤ n
  · simp (disch := omega) only [f2_insert, P.o, P.first, P.s, P.k, P.2.1.n, Option.bind_some, I_lit, I_le, I_neg, if_pos]
  · have q := x2.2 (g.resolve_left c)
    simp (disch := omega) only [f2_insert, P.o, P.first, P.s, P.k, P.v, P.2.1.n, P.2.2.1.n, e, Option.bind_some, I_lit, I_le, I_lt, I_eq, I_neg, if_pos, if_neg]
theorem PL.ins (P : PL h p cap n K Q) {key v : Int} (k0 : 0 ≤ key) (k1 : key < 1000000) (v0 : 0 ≤ v) (v1 : v ≤ 99) (c : n < cap) (g : kh K n key = false) : ∃ h', f2_insert h p (I key) (I v) = some (I (n + 1), h') ∧ PL h' p cap (n + 1) (inK K (ff K n key) n key) (inK Q (ff K n key) n v) ∧ Fr p (p + 3) h h' := by
  have b := P.2.2.2.2.2
  obtain ⟨f1, f2, -, -⟩ := P.ffs key
  obtain ⟨x, e, x0, x1, x2⟩ := P.keyFF k0 (by omega)
  have ne : ¬ x = key := fun q => by have := x2.1 q; rw [g] at this; cases this
  have O0 := P.1
  have U0 := P.2.1
  have V0 := P.2.2.1
  obtain ⟨h1, e1, U1, F1⟩ := cpI_ex U0 U0 (sp := ff K n key) (dp := ff K n key + 1) (nn := n - ff K n key) (by omega) (by omega) (by omega) (by omega) (by omega)
  have O1 := O0.at (F1.2 _ (by omega))
  have V1 := V0.at (F1.2 _ (by omega))
  obtain ⟨h2, e2, V2, F2⟩ := cpI_ex V1 V1 (sp := ff K n key) (dp := ff K n key + 1) (nn := n - ff K n key) (by omega) (by omega) (by omega) (by omega) (by omega)
  have O2 := O1.at (F2.2 _ (by omega))
  have U2 := U1.at (F2.2 _ (by omega))
  obtain ⟨h3, e3, U3, F3⟩ := U2.set (i := ff K n key) (v := key) (by omega) (by omega)
  have O3 := O2.at (F3.2 _ (by omega))
  have V3 := V2.at (F3.2 _ (by omega))
  obtain ⟨h4, e4, V4, F4⟩ := V3.set (i := ff K n key) (v := v) (by omega) (by omega)
  have O4 := O3.at (F4.2 _ (by omega))
  have U4 := U3.at (F4.2 _ (by omega))
  obtain ⟨h5, e5, O5, F5⟩ := O4.set 2 (.int (I (n + 1))) (by simp)
  have U5 := U4.at (F5.2 _ (by omega))
  have V5 := V4.at (F5.2 _ (by omega))
  refine ⟨h5, ?_, ⟨O5, U5, V5, inK_so b.1 P.2.2.2.1 g, fun i g0 g1 => ?_, by omega⟩, (((((F1.mono (by omega) (by omega)).trans (F2.mono (by omega) (by omega))).trans (F3.mono (by omega) (by omega))).trans (F4.mono (by omega) (by omega))).trans (F5.mono (by omega) (by omega)))⟩
  · simp (disch := omega) only [f2_insert, P.o, P.first, P.s, P.k, P.v, P.2.1.n, P.2.2.1.n, e, Option.bind_some, I_lit, I_le, I_lt, I_eq, I_neg, I_add, I_sub, if_neg, e1, e2, e3, e4, e5, O1.r 1 rfl, O1.i 2 rfl, O2.r 0 rfl, O3.r 1 rfl, O4.i 2 rfl, O5.i 2 rfl]
  · by_cases c1 : i < ff K n key
    · rw [inK_lo c1, inK_lo c1]; exact P.2.2.2.2.1 i g0 (by omega)
    · by_cases c2 : i = ff K n key
      · rw [c2, inK_at, inK_at]; omega
      · rw [inK_hi (by omega) (by omega), inK_hi (by omega) (by omega)]; exact P.2.2.2.2.1 _ (by omega) (by omega)
end
