/-! NUMBERS: an int is I of a whole number. -/
def I (x : Int) : Int32 := Int32.ofInt x
theorem I_add (a b : Int) : I a + I b = I (a + b) := (Int32.ofInt_add a b).symm
theorem I_mul (a b : Int) : I a * I b = I (a * b) := (Int32.ofInt_mul a b).symm
theorem I_neg (a : Int) : -I a = I (-a) := (Int32.ofInt_neg a).symm
theorem I_sub (a b : Int) : I a - I b = I (a - b) := (Int32.ofInt_sub a b).symm
theorem I_lit (n : Nat) : (OfNat.ofNat n : Int32) = I (OfNat.ofNat n : Int) := Eq.trans rfl rfl
theorem I_0 : (0 : Int32) = I 0 := Eq.trans rfl rfl
theorem I_1 : (1 : Int32) = I 1 := Eq.trans rfl rfl
theorem I_m1 : (-1 : Int32) = I (-1) := Eq.trans rfl rfl
theorem I_toInt {a : Int} (h : -2147483648 ≤ a) (h' : a < 2147483648) : (I a).toInt = a := Int32.toInt_ofInt_of_le h h'
theorem I_lt {a b : Int} (h : -2147483648 ≤ a) (h' : a < 2147483648) (g : -2147483648 ≤ b) (g' : b < 2147483648) : (I a < I b) = (a < b) := by
  rw [Int32.lt_iff_toInt_lt, I_toInt h h', I_toInt g g']
theorem I_le {a b : Int} (h : -2147483648 ≤ a) (h' : a < 2147483648) (g : -2147483648 ≤ b) (g' : b < 2147483648) : (I a ≤ I b) = (a ≤ b) := by
  rw [Int32.le_iff_toInt_le, I_toInt h h', I_toInt g g']
theorem I_eq {a b : Int} (h : -2147483648 ≤ a) (h' : a < 2147483648) (g : -2147483648 ≤ b) (g' : b < 2147483648) : (I a = I b) = (a = b) := by
  rw [← Int32.toInt_inj, I_toInt h h', I_toInt g g']
theorem I_of (x : Int32) : ∃ a : Int, -2147483648 ≤ a ∧ a < 2147483648 ∧ x = I a := ⟨x.toInt, Int32.le_toInt x, Int32.toInt_lt x, (Int32.ofInt_toInt x).symm⟩
theorem I_clamp {a : Int} (h : 0 ≤ a) (h' : a < 2147483648) : (I a).toNatClampNeg = a.toNat := by
  unfold Int32.toNatClampNeg
  rw [I_toInt (by omega) h']
theorem I_nat (n : Nat) : Int32.ofNat n = I n := rfl
theorem I_div {a b : Int} (h : 0 ≤ a) (h' : a < 2147483648) (g : 0 ≤ b) (g' : b < 2147483648) : I a / I b = I (a / b) := by
  rw [← Int32.toInt_inj, Int32.toInt_div, I_toInt (by omega) h', I_toInt (by omega) g']
  have h1 : 0 ≤ a / b := Int.ediv_nonneg h g
  have h2 : a / b ≤ a := Int.ediv_le_self b h
  rw [I_toInt (by omega) (by omega), Int.tdiv_eq_ediv_of_nonneg h, Int.bmod_eq_of_le (by omega) (by omega)]
theorem ix_I {i : Int} {n : Int} (h : 0 ≤ i) (h' : i < n) (hn : n < 2147483648) : ix (I i) n.toNat = some i.toNat := by
  have h0 : ¬ (I i < 0 ∨ n.toNat ≤ (I i).toNatClampNeg) := by
    rw [I_0, I_lt (by omega) (by omega) (by omega) (by omega), I_clamp h (by omega)]
    omega
  rw [ix, if_neg h0, I_clamp h (by omega)]
/-! what stands in a cell -/
def OB (h : AH) (a ci : Nat) (fs : List Value) : Prop := h.2 a = some (.inr (ci, fs))
def AI (h : AH) (a t : Nat) (n : Int) (g : Int → Int) : Prop := h.2 a = some (.inl (t, n.toNat, .inl fun k => I (g k))) ∧ 0 ≤ n ∧ n < 2147483648
def up (g : Int → Int) (i v : Int) : Int → Int := fun k => if k = i then v else g k
theorem up_eq {g : Int → Int} {i v : Int} : up g i v i = v := if_pos rfl
theorem up_ne {g : Int → Int} {i v k : Int} (h : k ≠ i) : up g i v k = g k := if_neg h
theorem OB.o {h : AH} {a ci : Nat} {fs : List Value} (e : OB h a ci fs) : hObj ci h a = some fs := by
  unfold OB at e
  simp only [hObj, e, if_pos]
theorem OB.i {h : AH} {a ci : Nat} {fs : List Value} (e : OB h a ci fs) (k : Nat) {v : Int32} (hv : fs[k]? = some (.int v)) : fI ci k h a = some v := by
  simp only [fI, e.o, Option.bind_some, hv, vI]
theorem OB.l {h : AH} {a ci : Nat} {fs : List Value} (e : OB h a ci fs) (k : Nat) {v : Int64} (hv : fs[k]? = some (.long v)) : fL ci k h a = some v := by
  simp only [fL, e.o, Option.bind_some, hv, vL]
theorem OB.r {h : AH} {a ci : Nat} {fs : List Value} (e : OB h a ci fs) (k : Nat) {v : Nat} (hv : fs[k]? = some (.ref v)) : fR ci k h a = some v := by
  simp only [fR, e.o, Option.bind_some, hv, vR]
theorem OB.q {h : AH} {a ci : Nat} {fs : List Value} (e : OB h a ci fs) (k : Nat) {v : Nat} (hv : fs[k]? = some (.ref v)) : fQ ci k h a = some (some v) := by
  simp only [fQ, e.o, Option.bind_some, hv, vQ]
theorem OB.q0 {h : AH} {a ci : Nat} {fs : List Value} (e : OB h a ci fs) (k : Nat) (hv : fs[k]? = some .null) : fQ ci k h a = some none := by
  simp only [fQ, e.o, Option.bind_some, hv, vQ]
theorem OB.s {h : AH} {a ci : Nat} {fs : List Value} (e : OB h a ci fs) (k : Nat) (v : Value) (hk : k < fs.length) : fS ci k h a v = some (hU h a (.inr (ci, fs.set k v))) := by
  simp only [fS, e.o, Option.bind_some, if_pos hk]
theorem AI.x {h : AH} {a t : Nat} {n : Int} {g : Int → Int} (e : AI h a t n g) : xI t h a = some (n.toNat, fun k : Nat => I (g k)) := by
  simp only [xI, e.1, if_pos]
theorem AI.n {h : AH} {a t : Nat} {n : Int} {g : Int → Int} (e : AI h a t n g) (ht : t < 7) : aN h a = some (I n) := by
  simp only [aN, e.1, if_pos ht, I_nat, Int.toNat_of_nonneg e.2.1]
theorem AI.g {h : AH} {a t : Nat} {n : Int} {g : Int → Int} (e : AI h a t n g) {i : Int} (h0 : 0 ≤ i) (h1 : i < n) : aI t h a (I i) = some (I (g i)) := by
  simp only [aI, e.x, Option.bind_some, ix_I h0 h1 e.2.2, Int.toNat_of_nonneg h0]
theorem AI.s {h : AH} {a t : Nat} {n : Int} {g : Int → Int} (e : AI h a t n g) {i v : Int} (h0 : 0 ≤ i) (h1 : i < n) : sI t h a (I i) (I v) = some (hU h a (.inl (t, n.toNat, .inl fun k => I (up g i v k)))) := by
  have q : upd (fun k : Nat => I (g k)) i.toNat (I v) = fun k : Nat => I (up g i v k) := by
    funext k
    unfold upd up
    by_cases hk : k = i.toNat
    · rw [if_pos hk, if_pos (by omega)]
    · rw [if_neg hk, if_neg (by omega)]
  simp only [sI, e.x, Option.bind_some, ix_I h0 h1 e.2.2, q]
/-! frames: what lies outside of lo..hi is as it was -/
def Fr (lo hi : Nat) (h h' : AH) : Prop := h'.1 = h.1 ∧ ∀ a, a < lo ∨ hi ≤ a → h'.2 a = h.2 a
theorem Fr.refl (lo hi : Nat) (h : AH) : Fr lo hi h h := ⟨rfl, fun _ _ => rfl⟩
theorem Fr.trans {lo hi : Nat} {h h1 h2 : AH} (a : Fr lo hi h h1) (b : Fr lo hi h1 h2) : Fr lo hi h h2 := ⟨b.1.trans a.1, fun q hq => (b.2 q hq).trans (a.2 q hq)⟩
theorem Fr.mono {lo hi lo' hi' : Nat} {h h1 : AH} (a : Fr lo hi h h1) (h0 : lo' ≤ lo) (h1' : hi ≤ hi') : Fr lo' hi' h h1 := ⟨a.1, fun q hq => a.2 q (by omega)⟩
theorem Fr.u {lo hi : Nat} (h : AH) {a : Nat} (e : AE) (h0 : lo ≤ a) (h1 : a < hi) : Fr lo hi h (hU h a e) := ⟨rfl, fun q hq => by simp only [hU]; exact if_neg (by omega)⟩
theorem OB.at {h h' : AH} {a ci : Nat} {fs : List Value} (e : OB h a ci fs) (q : h'.2 a = h.2 a) : OB h' a ci fs := q.trans e
theorem AI.at {h h' : AH} {a t : Nat} {n : Int} {g : Int → Int} (e : AI h a t n g) (q : h'.2 a = h.2 a) : AI h' a t n g := ⟨q.trans e.1, e.2⟩
theorem OB.u {h : AH} {a ci : Nat} {fs : List Value} : OB (hU h a (.inr (ci, fs))) a ci fs := by simp only [OB, hU, if_pos]
theorem AI.u {h : AH} {a t : Nat} {n : Int} {g : Int → Int} (h0 : 0 ≤ n) (h1 : n < 2147483648) : AI (hU h a (.inl (t, n.toNat, .inl fun k => I (g k)))) a t n g := by
  refine ⟨?_, h0, h1⟩
  simp only [hU, if_pos]
theorem hU_ne {h : AH} {a b : Nat} {e : AE} (q : b ≠ a) : (hU h a e).2 b = h.2 b := by simp only [hU, if_neg q]
