/-! the law of the whole: call after call (gen89y.py) -/
theorem sx_ex (xs : Nat → Int32) {N : Nat} (hN : N ≤ 4608) {i k : Int} (h0 : 0 ≤ i + k) (h1 : i + k < N) : ∃ a : Int, -2147483648 ≤ a ∧ a < 2147483648 ∧ sx xs N (I i + I k) = some (I a) := by
  have e := ix_I (i := i + k) (n := (N : Int)) h0 h1 (by omega)
  rw [Int.toNat_natCast] at e
  refine ⟨(xs (i + k).toNat).toInt, Int32.le_toInt _, Int32.toInt_lt _, ?_⟩
  rw [I_add, sx, e, Option.bind_some]
  exact congrArg some (Int32.ofInt_toInt _).symm
theorem law_loop (xs : Nat → Int32) {N : Nat} (hN : N ≤ 4608) {x : Nat} : ∀ (n i : Nat) (h : AH), n + i = 513 → i ≤ 512 → EST h x → ∃ h', fL_law_18 xs N x (x + 71) n h (I ((9 * i : Nat) : Int)) = some (true, h')
  | 0, i, h, hi, hj, S => by omega
  | n + 1, i, h, hi, hj, S => by
    obtain ⟨w, ew⟩ : ∃ w : Int, w = ((9 * i : Nat) : Int) := ⟨_, rfl⟩
    rw [← ew]
    have lt0 : (I (N : Int) - I 9 < I w) = ((N : Int) - 9 < w) := by
      rw [I_sub]
      exact I_lt (by omega) (by omega) (by omega) (by omega)
    have lt : (Int32.ofNat N - (9 : Int32) < I w) = ((N : Int) - 9 < w) := lt0
    rw [fL_law_18.eq_2]
    by_cases z : (N : Int) - 9 < w
    · exact ⟨h, by rw [if_pos (by rw [lt]; exact z)]⟩
    have go : ∀ h2, EST h2 x → ∃ h', fL_law_18 xs N x (x + 71) n h2 (I w + (9 : Int32)) = some (true, h') := fun h2 S2 => by
      have q := law_loop xs hN n (i + 1) h2 (by omega) (by omega) S2
      have e0 : I w + I 9 = I ((9 * (i + 1) : Nat) : Int) := by rw [I_add]; exact congrArg I (by omega)
      have e : I w + (9 : Int32) = I ((9 * (i + 1) : Nat) : Int) := e0
      rw [e]
      exact q
    obtain ⟨a0, -, -, s0⟩ := sx_ex xs hN (i := w) (k := 0) (by omega) (by omega)
    rw [I_add, show w + 0 = w by omega] at s0
    obtain ⟨a1, l1, u1, t1⟩ := sx_ex xs hN (i := w) (k := 1) (by omega) (by omega)
    have s1 : sx xs N (I w + (1 : Int32)) = some (I a1) := t1
    obtain ⟨a2, l2, u2, t2⟩ := sx_ex xs hN (i := w) (k := 2) (by omega) (by omega)
    have s2 : sx xs N (I w + (2 : Int32)) = some (I a2) := t2
    obtain ⟨a3, l3, u3, t3⟩ := sx_ex xs hN (i := w) (k := 3) (by omega) (by omega)
    have s3 : sx xs N (I w + (3 : Int32)) = some (I a3) := t3
    obtain ⟨a4, l4, u4, t4⟩ := sx_ex xs hN (i := w) (k := 4) (by omega) (by omega)
    have s4 : sx xs N (I w + (4 : Int32)) = some (I a4) := t4
    obtain ⟨a5, l5, u5, t5⟩ := sx_ex xs hN (i := w) (k := 5) (by omega) (by omega)
    have s5 : sx xs N (I w + (5 : Int32)) = some (I a5) := t5
    obtain ⟨a6, l6, u6, t6⟩ := sx_ex xs hN (i := w) (k := 6) (by omega) (by omega)
    have s6 : sx xs N (I w + (6 : Int32)) = some (I a6) := t6
    obtain ⟨a7, l7, u7, t7⟩ := sx_ex xs hN (i := w) (k := 7) (by omega) (by omega)
    have s7 : sx xs N (I w + (7 : Int32)) = some (I a7) := t7
    obtain ⟨a8, l8, u8, t8⟩ := sx_ex xs hN (i := w) (k := 8) (by omega) (by omega)
    have s8 : sx xs N (I w + (8 : Int32)) = some (I a8) := t8
    rw [if_neg (by rw [lt]; exact z), s0, Option.bind_some]
    by_cases k0 : (I a0 &&& (63 : Int32)) = (0 : Int32)
    · obtain ⟨a, h1, h2, e1, e2, S2⟩ := c_clock S l1 u1
      dsimp only at e1 e2
      rw [if_pos k0]
      simp only [s1, e1, e2, Option.bind_some, if_true]
      exact go h2 S2
    rw [if_neg k0]
    by_cases k1 : (I a0 &&& (63 : Int32)) = (1 : Int32)
    · obtain ⟨a, h1, h2, e1, e2, S2⟩ := c_stuff S l1 u1 l2 u2
      dsimp only at e1 e2
      rw [if_pos k1]
      simp only [s1, s2, e1, e2, Option.bind_some, if_true]
      exact go h2 S2
    rw [if_neg k1]
    by_cases k2 : (I a0 &&& (63 : Int32)) = (2 : Int32)
    · obtain ⟨a, h1, h2, e1, e2, S2⟩ := c_truth S l1 u1 l2 u2
      dsimp only at e1 e2
      rw [if_pos k2]
      simp only [s1, s2, e1, e2, Option.bind_some, if_true]
      exact go h2 S2
    rw [if_neg k2]
    by_cases k3 : (I a0 &&& (63 : Int32)) = (3 : Int32)
    · obtain ⟨a, h1, h2, e1, e2, S2⟩ := c_fact S l1 u1 l2 u2 l3 u3
      dsimp only at e1 e2
      rw [if_pos k3]
      simp only [s1, s2, s3, e1, e2, Option.bind_some, if_true]
      exact go h2 S2
    rw [if_neg k3]
    by_cases k4 : (I a0 &&& (63 : Int32)) = (4 : Int32)
    · obtain ⟨a, h1, h2, e1, e2, S2⟩ := c_piece S l1 u1 l2 u2 l3 u3 l4 u4 l5 u5 l6 u6 l7 u7 l8 u8
      dsimp only at e1 e2
      rw [if_pos k4]
      simp only [s1, s2, s3, s4, s5, s6, s7, s8, e1, e2, Option.bind_some, if_true]
      exact go h2 S2
    rw [if_neg k4]
    by_cases k5 : (I a0 &&& (63 : Int32)) = (5 : Int32)
    · obtain ⟨a, h1, h2, e1, e2, S2⟩ := c_page S l1 u1 l2 u2 l3 u3
      dsimp only at e1 e2
      rw [if_pos k5]
      simp only [s1, s2, s3, e1, e2, Option.bind_some, if_true]
      exact go h2 S2
    rw [if_neg k5]
    by_cases k6 : (I a0 &&& (63 : Int32)) = (6 : Int32)
    · obtain ⟨a, e1, e2⟩ := c_of S l1 u1 l2 u2
      rw [if_pos k6]
      simp only [s1, s2, e1, e2, Option.bind_some, if_true]
      exact go h S
    rw [if_neg k6]
    by_cases k7 : (I a0 &&& (63 : Int32)) = (7 : Int32)
    · obtain ⟨a, e1, e2⟩ := c_shared S l1 u1 l2 u2
      rw [if_pos k7]
      simp only [s1, s2, e1, e2, Option.bind_some, if_true]
      exact go h S
    rw [if_neg k7]
    by_cases k8 : (I a0 &&& (63 : Int32)) = (8 : Int32)
    · obtain ⟨a, h1, h2, e1, e2, S2⟩ := c_feed S l1 u1 l2 u2 l3 u3 l4 u4 l5 u5
      dsimp only at e1 e2
      rw [if_pos k8]
      simp only [s1, s2, s3, s4, s5, e1, e2, Option.bind_some, if_true]
      exact go h2 S2
    rw [if_neg k8]
    by_cases k9 : (I a0 &&& (63 : Int32)) = (9 : Int32)
    · obtain ⟨a, h1, h2, e1, e2, S2⟩ := c_end S l1 u1
      dsimp only at e1 e2
      rw [if_pos k9]
      simp only [s1, e1, e2, Option.bind_some, if_true]
      exact go h2 S2
    rw [if_neg k9]
    by_cases k10 : (I a0 &&& (63 : Int32)) = (10 : Int32)
    · obtain ⟨a, h1, h2, e1, e2, S2⟩ := c_reader S 
      dsimp only at e1 e2
      rw [if_pos k10]
      simp only [e1, e2, Option.bind_some, if_true]
      exact go h2 S2
    rw [if_neg k10]
    by_cases k11 : (I a0 &&& (63 : Int32)) = (11 : Int32)
    · obtain ⟨a, h1, h2, e1, e2, S2⟩ := c_maker S 
      dsimp only at e1 e2
      rw [if_pos k11]
      simp only [e1, e2, Option.bind_some, if_true]
      exact go h2 S2
    rw [if_neg k11]
    by_cases k12 : (I a0 &&& (63 : Int32)) = (12 : Int32)
    · obtain ⟨a, h1, h2, e1, e2, S2⟩ := c_chance S l1 u1 l2 u2 l3 u3
      dsimp only at e1 e2
      rw [if_pos k12]
      simp only [s1, s2, s3, e1, e2, Option.bind_some, if_true]
      exact go h2 S2
    rw [if_neg k12]
    by_cases k13 : (I a0 &&& (63 : Int32)) = (13 : Int32)
    · obtain ⟨a, h1, h2, e1, e2, S2⟩ := c_tells S l1 u1 l2 u2 l3 u3 l4 u4
      dsimp only at e1 e2
      rw [if_pos k13]
      simp only [s1, s2, s3, s4, e1, e2, Option.bind_some, if_true]
      exact go h2 S2
    rw [if_neg k13]
    by_cases k14 : (I a0 &&& (63 : Int32)) = (14 : Int32)
    · obtain ⟨a, h1, h2, e1, e2, S2⟩ := c_look S l1 u1 l2 u2 l3 u3 l4 u4
      dsimp only at e1 e2
      rw [if_pos k14]
      simp only [s1, s2, s3, s4, e1, e2, Option.bind_some, if_true]
      exact go h2 S2
    rw [if_neg k14]
    by_cases k15 : (I a0 &&& (63 : Int32)) = (15 : Int32)
    · obtain ⟨a, h1, h2, e1, e2, S2⟩ := c_test S l1 u1 l2 u2
      dsimp only at e1 e2
      rw [if_pos k15]
      simp only [s1, s2, e1, e2, Option.bind_some, if_true]
      exact go h2 S2
    rw [if_neg k15]
    by_cases k16 : (I a0 &&& (63 : Int32)) = (16 : Int32)
    · obtain ⟨a, h1, h2, e1, e2, S2⟩ := c_keep S l1 u1 l2 u2
      dsimp only at e1 e2
      rw [if_pos k16]
      simp only [s1, s2, e1, e2, Option.bind_some, if_true]
      exact go h2 S2
    rw [if_neg k16]
    by_cases k17 : (I a0 &&& (63 : Int32)) = (17 : Int32)
    · obtain ⟨a, e1, e2⟩ := c_stand S l1 u1 l2 u2
      rw [if_pos k17]
      simp only [s1, s2, e1, e2, Option.bind_some, if_true]
      exact go h S
    rw [if_neg k17]
    by_cases k18 : (I a0 &&& (63 : Int32)) = (18 : Int32)
    · obtain ⟨a, e1, e2⟩ := c_cost S l1 u1
      rw [if_pos k18]
      simp only [s1, e1, e2, Option.bind_some, if_true]
      exact go h S
    rw [if_neg k18]
    by_cases k19 : (I a0 &&& (63 : Int32)) = (19 : Int32)
    · obtain ⟨a, e1, e2⟩ := c_cheapest S l1 u1
      rw [if_pos k19]
      simp only [s1, e1, e2, Option.bind_some, if_true]
      exact go h S
    rw [if_neg k19]
    by_cases k20 : (I a0 &&& (63 : Int32)) = (20 : Int32)
    · obtain ⟨a, e1, e2⟩ := c_likely S l1 u1
      rw [if_pos k20]
      simp only [s1, e1, e2, Option.bind_some, if_true]
      exact go h S
    rw [if_neg k20]
    by_cases k21 : (I a0 &&& (63 : Int32)) = (21 : Int32)
    · obtain ⟨a, e1, e2⟩ := c_kin S l1 u1 l2 u2
      rw [if_pos k21]
      simp only [s1, s2, e1, e2, Option.bind_some, if_true]
      exact go h S
    rw [if_neg k21]
    by_cases k22 : (I a0 &&& (63 : Int32)) = (22 : Int32)
    · obtain ⟨a, e1, e2⟩ := c_could S l1 u1
      rw [if_pos k22]
      simp only [s1, e1, e2, Option.bind_some, if_true]
      exact go h S
    rw [if_neg k22]
    by_cases k23 : (I a0 &&& (63 : Int32)) = (23 : Int32)
    · obtain ⟨a, e1, e2⟩ := c_outrun S l1 u1 l2 u2
      rw [if_pos k23]
      simp only [s1, s2, e1, e2, Option.bind_some, if_true]
      exact go h S
    rw [if_neg k23]
    by_cases k24 : (I a0 &&& (63 : Int32)) = (24 : Int32)
    · obtain ⟨a, h2, e1, e2, S2⟩ := c_grows S
      rw [if_pos k24]
      simp only [e1, e2, Option.bind_some, if_true]
      exact go h2 S2
    rw [if_neg k24]
    by_cases k25 : (I a0 &&& (63 : Int32)) = (25 : Int32)
    · obtain ⟨a, h1, h2, e1, e2, S2⟩ := c_make S l1 u1 l2 u2 l3 u3 l4 u4 l5 u5
      dsimp only at e1 e2
      rw [if_pos k25]
      simp only [s1, s2, s3, s4, s5, e1, e2, Option.bind_some, if_true]
      exact go h2 S2
    rw [if_neg k25]
    by_cases k26 : (I a0 &&& (63 : Int32)) = (26 : Int32)
    · obtain ⟨a, h1, h2, e1, e2, S2⟩ := c_soonest S l1 u1 l2 u2 l3 u3 l4 u4
      dsimp only at e1 e2
      rw [if_pos k26]
      simp only [s1, s2, s3, s4, e1, e2, Option.bind_some, if_true]
      exact go h2 S2
    rw [if_neg k26]
    by_cases k27 : (I a0 &&& (63 : Int32)) = (27 : Int32)
    · obtain ⟨a, h1, h2, e1, e2, S2⟩ := c_surest S l1 u1 l2 u2 l3 u3
      dsimp only at e1 e2
      rw [if_pos k27]
      simp only [s1, s2, s3, e1, e2, Option.bind_some, if_true]
      exact go h2 S2
    rw [if_neg k27]
    by_cases k28 : (I a0 &&& (63 : Int32)) = (28 : Int32)
    · obtain ⟨a, h1, h2, e1, e2, S2⟩ := c_person S l1 u1 l2 u2 l3 u3 l4 u4
      dsimp only at e1 e2
      rw [if_pos k28]
      simp only [s1, s2, s3, s4, e1, e2, Option.bind_some, if_true]
      exact go h2 S2
    rw [if_neg k28]
    by_cases k29 : (I a0 &&& (63 : Int32)) = (29 : Int32)
    · obtain ⟨a, h1, h2, e1, e2, S2⟩ := c_ask S l1 u1
      dsimp only at e1 e2
      rw [if_pos k29]
      simp only [s1, e1, e2, Option.bind_some, if_true]
      exact go h2 S2
    rw [if_neg k29]
    by_cases k30 : (I a0 &&& (63 : Int32)) = (30 : Int32)
    · obtain ⟨a, e1, e2⟩ := c_unasked S l1 u1 l2 u2
      rw [if_pos k30]
      simp only [s1, s2, e1, e2, Option.bind_some, if_true]
      exact go h S
    rw [if_neg k30]
    by_cases k31 : (I a0 &&& (63 : Int32)) = (31 : Int32)
    · obtain ⟨a, e1, e2⟩ := c_gain S l1 u1 l2 u2
      rw [if_pos k31]
      simp only [s1, s2, e1, e2, Option.bind_some, if_true]
      exact go h S
    rw [if_neg k31]
    by_cases k32 : (I a0 &&& (63 : Int32)) = (32 : Int32)
    · obtain ⟨a, e1, e2⟩ := c_count S l1 u1
      rw [if_pos k32]
      simp only [s1, e1, e2, Option.bind_some, if_true]
      exact go h S
    rw [if_neg k32]
    by_cases k33 : (I a0 &&& (63 : Int32)) = (33 : Int32)
    · obtain ⟨a, h1, h2, e1, e2, S2⟩ := c_image S l1 u1
      dsimp only at e1 e2
      rw [if_pos k33]
      simp only [s1, e1, e2, Option.bind_some, if_true]
      exact go h2 S2
    rw [if_neg k33]
    by_cases k34 : (I a0 &&& (63 : Int32)) = (34 : Int32)
    · obtain ⟨a, h1, h2, e1, e2, S2⟩ := c_back S l1 u1
      dsimp only at e1 e2
      rw [if_pos k34]
      simp only [s1, e1, e2, Option.bind_some, if_true]
      exact go h2 S2
    rw [if_neg k34]
    rw [Option.bind_some]
    exact go h S
theorem law_all (xs : Nat → Int32) (N base : Nat) (hN : N ≤ 4608) : ∃ h', fL_law xs N (base, fun _ => none) = some (true, h') := by
  obtain ⟨h2, e, S⟩ := law_start base
  rw [e xs N]
  exact law_loop xs hN 513 0 h2 (by omega) (by omega) S
