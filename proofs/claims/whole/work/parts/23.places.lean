/-! PLACES: keys in order, each with its place -/
def ff (K : Int → Int) (n key : Int) : Int := cn (fun i => decide (K i < key)) n.toNat 0
theorem ff_uniq {K : Int → Int} {n key b : Int} (h0 : 0 ≤ b) (h1 : b ≤ n) (lo : ∀ i, 0 ≤ i → i < b → K i < key) (hi : ∀ i, b ≤ i → i < n → key ≤ K i) : ff K n key = b := by
  unfold ff
  rw [show n.toNat = b.toNat + (n - b).toNat by omega, cn_add, cn_all, cn_none]
  · omega
  · intro j h2 h3
    have := hi j (by omega) (by omega)
    simp; omega
  · intro j h2 h3
    have := lo j (by omega) (by omega)
    simp; omega
def so (K : Int → Int) (n : Int) : Prop := ∀ i j, 0 ≤ i → i < j → j < n → K i < K j
theorem ff_ex {K : Int → Int} {key : Int} : ∀ n : Nat, so K n → ∃ b : Int, 0 ≤ b ∧ b ≤ n ∧ (∀ i, 0 ≤ i → i < b → K i < key) ∧ (∀ i, b ≤ i → i < n → key ≤ K i) := by
  intro n
  induction n with
  | zero => intro _; exact ⟨0, by omega, by omega, fun i _ _ => by omega, fun i _ _ => by omega⟩
  | succ n ih =>
    intro s
    by_cases hk : K n < key
    · refine ⟨n + 1, by omega, by omega, fun i h0 h1 => ?_, fun i _ _ => by omega⟩
      by_cases e : i = n
      · subst e; exact hk
      · have := s i n h0 (by omega) (by omega)
        omega
    · obtain ⟨b, h0, h1, lo, hi⟩ := ih (fun i j a b c => s i j a b (by omega))
      refine ⟨b, h0, by omega, lo, fun i h2 h3 => ?_⟩
      by_cases e : i = n
      · subst e; omega
      · exact hi i h2 (by omega)
theorem ff_spec {K : Int → Int} {n : Int} (key : Int) (hn : 0 ≤ n) (s : so K n) : 0 ≤ ff K n key ∧ ff K n key ≤ n ∧ (∀ i, 0 ≤ i → i < ff K n key → K i < key) ∧ (∀ i, ff K n key ≤ i → i < n → key ≤ K i) := by
  obtain ⟨b, h0, h1, lo, hi⟩ := ff_ex (key := key) n.toNat (by rw [Int.toNat_of_nonneg hn]; exact s)
  rw [Int.toNat_of_nonneg hn] at h1 hi
  rw [ff_uniq h0 h1 lo hi]
  exact ⟨h0, h1, lo, hi⟩
def PL (h : AH) (p : Nat) (cap n : Int) (K Q : Int → Int) : Prop := OB h p 2 [.ref (p + 1), .ref (p + 2), .int (I n)] ∧ AI h (p + 1) 0 cap K ∧ AI h (p + 2) 0 cap Q ∧ so K n ∧ (∀ i, 0 ≤ i → i < n → 0 ≤ K i ∧ K i < 1000000 ∧ 0 ≤ Q i ∧ Q i ≤ 99) ∧ (0 ≤ n ∧ n ≤ cap ∧ cap ≤ 400)
section
variable {h h' : AH} {p : Nat} {cap n : Int} {K Q : Int → Int}
theorem PL.o (P : PL h p cap n K Q) : hObj 2 h p = some [.ref (p + 1), .ref (p + 2), .int (I n)] := P.1.o
theorem PL.k (P : PL h p cap n K Q) : fR 2 0 h p = some (p + 1) := P.1.r 0 rfl
theorem PL.v (P : PL h p cap n K Q) : fR 2 1 h p = some (p + 2) := P.1.r 1 rfl
theorem PL.s (P : PL h p cap n K Q) : fI 2 2 h p = some (I n) := P.1.i 2 rfl
theorem PL.fr (P : PL h p cap n K Q) {lo hi : Nat} (f : Fr lo hi h h') (d : p + 3 ≤ lo ∨ hi ≤ p) : PL h' p cap n K Q := ⟨P.1.at (f.2 _ (by omega)), P.2.1.at (f.2 _ (by omega)), P.2.2.1.at (f.2 _ (by omega)), P.2.2.2⟩
theorem PL.ffs (P : PL h p cap n K Q) (key : Int) : 0 ≤ ff K n key ∧ ff K n key ≤ n ∧ (∀ i, 0 ≤ i → i < ff K n key → K i < key) ∧ (∀ i, ff K n key ≤ i → i < n → key ≤ K i) := ff_spec key P.2.2.2.2.2.1 P.2.2.2.1
theorem PL.loop (P : PL h p cap n K Q) {key : Int} (k0 : -2147483648 ≤ key) (k1 : key < 2147483648) : ∀ (f : Nat) (lo hi : Int), 0 ≤ lo → lo ≤ hi → hi ≤ n → hi - lo < f → (∀ i, 0 ≤ i → i < lo → K i < key) → (∀ i, hi ≤ i → i < n → key ≤ K i) → f2_firstFrom_15 h p (I key) f (I lo) (I hi) = some (I (ff K n key)) := by
  intro f
  induction f with
  | zero => intros; omega
  | succ f ih =>
    intro lo hi h0 h1 h2 hf l1 l2
    have b := P.2.2.2.2.2
    by_cases e : lo < hi
    · have r := P.2.2.2.2.1 ((lo + hi) / 2) (by omega) (by omega)
      simp (disch := omega) only [f2_firstFrom_15, P.k, P.2.1.g, Option.bind_some, I_lit, I_le, I_eq, I_add, I_div, if_neg]
      by_cases c : key ≤ K ((lo + hi) / 2)
      · rw [if_pos c]
        refine ih lo _ h0 (by omega) (by omega) (by omega) l1 fun i g0 g1 => ?_
        by_cases e2 : i = (lo + hi) / 2
        · subst e2; exact c
        · have := P.2.2.2.1 ((lo + hi) / 2) i (by omega) (by omega) g1
          omega
      · rw [if_neg c]
        refine ih _ hi (by omega) (by omega) (by omega) (by omega) (fun i g0 g1 => ?_) l2
        by_cases e2 : i = (lo + hi) / 2
        · subst e2; omega
        · have := P.2.2.2.1 i ((lo + hi) / 2) (by omega) (by omega) (by omega)
          omega
    · have : lo = hi := by omega
      subst this
      rw [ff_uniq h0 h2 l1 l2]
      simp (disch := omega) only [f2_firstFrom_15, I_le, if_pos]
theorem PL.first (P : PL h p cap n K Q) {key : Int} (k0 : -2147483648 ≤ key) (k1 : key < 2147483648) : f2_firstFrom h p (I key) = some (I (ff K n key)) := by
  have b := P.2.2.2.2.2
  simp (disch := omega) only [f2_firstFrom, P.o, P.k, P.s, P.2.1.n, Option.bind_some, I_lit, I_lt, if_neg]
  have fu2 : n - 0 < (FU : Nat) := Int.lt_trans (by omega) FU_big
  generalize FU = F at fu2 ⊢
  exact P.loop k0 k1 F 0 n (by omega) b.1 (by omega) fu2 (fun i _ _ => by omega) (fun i _ _ => by omega)
theorem PL.keyAt (P : PL h p cap n K Q) {i : Int} (h0 : 0 ≤ i) (h1 : i < n) : f2_keyAt h p (I i) = some (I (K i)) := by
  have b := P.2.2.2.2.2
  simp (disch := omega) only [f2_keyAt, P.o, P.k, P.s, P.2.1.n, P.2.1.g, Option.bind_some, I_lit, I_lt, I_le, if_neg]
theorem PL.keyOut (P : PL h p cap n K Q) : f2_keyAt h p (I n) = some (I (-1)) := by
  have b := P.2.2.2.2.2
  simp (disch := omega) only [f2_keyAt, P.o, P.s, Option.bind_some, I_lit, I_lt, I_le, I_neg, if_neg, if_pos]
theorem PL.placeAt (P : PL h p cap n K Q) {i : Int} (h0 : 0 ≤ i) (h1 : i < n) : f2_placeAt h p (I i) = some (I (Q i)) := by
  have b := P.2.2.2.2.2
  simp (disch := omega) only [f2_placeAt, P.o, P.v, P.s, P.2.2.1.n, P.2.2.1.g, Option.bind_some, I_lit, I_lt, I_le, if_neg]
def kh (K : Int → Int) (n key : Int) : Bool := decide (ff K n key < n ∧ K (ff K n key) = key)
def pof (K Q : Int → Int) (n key : Int) : Int := if kh K n key = true then Q (ff K n key) else -1
theorem PL.keyFF (P : PL h p cap n K Q) {key : Int} (k0 : 0 ≤ key) (k1 : key < 2147483648) : ∃ x, f2_keyAt h p (I (ff K n key)) = some (I x) ∧ -2147483648 ≤ x ∧ x < 2147483648 ∧ (x = key ↔ kh K n key = true) := by
  obtain ⟨f1, f2, -, -⟩ := P.ffs key
  by_cases e : ff K n key < n
  · have r := P.2.2.2.2.1 _ f1 e
    exact ⟨_, P.keyAt f1 e, by omega, by omega, by simp [kh, e]⟩
  · have : ff K n key = n := by omega
    refine ⟨-1, by rw [this]; exact P.keyOut, by omega, by omega, ?_⟩
    simp [kh, e]; omega
theorem PL.hasKey (P : PL h p cap n K Q) {key : Int} (k0 : 0 ≤ key) (k1 : key < 2147483648) : f2_hasKey h p (I key) = some (kh K n key) := by
  obtain ⟨x, e, x0, x1, x2⟩ := P.keyFF k0 k1
  simp (disch := omega) only [f2_hasKey, P.o, P.first, e, Option.bind_some, I_eq]
  by_cases c : x = key
  · rw [if_pos c, x2.1 c]
  · rw [if_neg c]
    cases q : kh K n key
    · rfl
    · exact absurd (x2.2 q) c
theorem PL.placeOf (P : PL h p cap n K Q) {key : Int} (k0 : 0 ≤ key) (k1 : key < 2147483648) : f2_placeOf h p (I key) = some (I (pof K Q n key)) := by
  obtain ⟨x, e, x0, x1, x2⟩ := P.keyFF k0 k1
  simp (disch := omega) only [f2_placeOf, P.o, P.first, e, Option.bind_some, I_eq]
  by_cases c : x = key
  · have q := x2.1 c
    have f1 := (P.ffs key).1
    have q2 := q
    simp only [kh, decide_eq_true_eq] at q2
    rw [if_pos c, P.placeAt f1 q2.1, pof, if_pos q]
    rfl
  · rw [if_neg c, pof, if_neg (fun q => c (x2.2 q))]
    rfl
theorem PL.size (P : PL h p cap n K Q) : f2_size h p = some (I n) := by
  simp only [f2_size, P.o, P.s, Option.bind_some]
theorem kh_iff (hn : 0 ≤ n) (s : so K n) {key : Int} : kh K n key = true ↔ ∃ i, 0 ≤ i ∧ i < n ∧ K i = key := by
  obtain ⟨f1, f2, f3, f4⟩ := ff_spec key hn s
  simp only [kh, decide_eq_true_eq]
  constructor
  · exact fun ⟨a, b⟩ => ⟨_, f1, a, b⟩
  · rintro ⟨i, h0, h1, e⟩
    have : ff K n key = i := by
      by_cases c : i < ff K n key
      · have := f3 i h0 c; omega
      · by_cases c2 : ff K n key < i
        · have := f4 _ (Int.le_refl _) (by omega)
          have := s _ i f1 c2 h1
          omega
        · omega
    rw [this]; exact ⟨h1, e⟩
theorem pof_at (s : so K n) {i : Int} (h0 : 0 ≤ i) (h1 : i < n) : pof K Q n (K i) = Q i := by
  have : ff K n (K i) = i := ff_uniq h0 (by omega) (fun j a b => s j i a b h1) (fun j a b => by
    by_cases e : i = j
    · subst e; omega
    · have := s i j h0 (by omega) b
      omega)
  rw [pof, if_pos, this]
  simp [kh, this, h1]
theorem pof_no {key : Int} (h0 : kh K n key = false) : pof K Q n key = -1 := by
  rw [pof, h0]; rfl
end
