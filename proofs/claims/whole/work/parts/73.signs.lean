/-! the class's signs -/
def kos (c : Int) : Int := if c = -1 then 33 else if c = 42 then 29 else if c = 43 then 27 else if c = 45 then 28 else if c = 59 then 32 else if c = 60 then 22 else if c = 61 then 24 else if c = 62 then 26 else if c = 91 then 30 else if c = 93 then 31 else 34
theorem kos_st {w k a d : Int} {b : Option Int32} (w0 : -2147483648 ≤ w) (w1 : w < 2147483648) (k0 : -2147483648 ≤ k) (k1 : k < 2147483648) (e : b = some (I d)) : (if I w = I k then some (I a) else b) = some (I (if w = k then a else d)) := by
  have l : (I w = I k) = (w = k) := I_eq w0 w1 k0 k1
  by_cases z : w = k
  · rw [if_pos (l ▸ z), if_pos z]
  · rw [if_neg (fun y => z (l ▸ y)), if_neg z, e]
theorem kindOfSign {h : AH} {c : Int} (c0 : -1 ≤ c) (c1 : c ≤ 255) : f6_kindOfSign h (I c) = some (I (kos c)) := by
  rw [f6_kindOfSign]
  simp only [I_lit, I_neg]
  unfold kos
  iterate 10 refine kos_st (by omega) (by omega) (by omega) (by omega) ?_
  rfl
theorem kos_rng (c : Int) : 22 ≤ kos c ∧ kos c ≤ 34 := by
  unfold kos
  repeat' split
  all_goals omega
