/-! WHAT CALLS WRITE: the row r behind each -/
def rStuff (r : Int → Int) (y c : Int) : Int → Int := up (up (up r (10 + 2 * r 1) y) (10 + 2 * r 1 + 1) c) 1 (r 1 + 1)
def rTruth (r : Int → Int) (d l : Int) : Int → Int := up (up (up r (30 + 2 * r 2) d) (30 + 2 * r 2 + 1) l) 2 (r 2 + 1)
def rFact (r : Int → Int) (s d l : Int) : Int → Int := up (up (up (up r (430 + 3 * r 3) s) (430 + 3 * r 3 + 1) d) (430 + 3 * r 3 + 2) l) 3 (r 3 + 1)
def rPiece (r : Int → Int) (so a b c d e st pr : Int) : Int → Int := up (up (up (up (up (up (up (up (up (up (up r (1330 + 10 * r 4) so) (1330 + 10 * r 4 + 1) a) (1330 + 10 * r 4 + 2) b) (1330 + 10 * r 4 + 3) c) (1330 + 10 * r 4 + 4) d) (1330 + 10 * r 4 + 5) e) (1330 + 10 * r 4 + 6) st) (1330 + 10 * r 4 + 7) pr) (1330 + 10 * r 4 + 8) (r 0)) (1330 + 10 * r 4 + 9) 0) 4 (r 4 + 1)
def rPage (r : Int → Int) (p d l : Int) : Int → Int := up (up (up (up r (2230 + 3 * r 5) p) (2230 + 3 * r 5 + 1) d) (2230 + 3 * r 5 + 2) l) 5 (r 5 + 1)
def rLook (r : Int → Int) (rd p bt ys wk : Int) : Int → Int := up (up (up (up (up (up r (3430 + 5 * r 6) rd) (3430 + 5 * r 6 + 1) p) (3430 + 5 * r 6 + 2) bt) (3430 + 5 * r 6 + 3) ys) (3430 + 5 * r 6 + 4) wk) 6 (r 6 + 1)
def rTest (r : Int → Int) (p s : Int) : Int → Int := up (up (up (up r (4430 + 3 * r 7) p) (4430 + 3 * r 7 + 1) s) (4430 + 3 * r 7 + 2) (r 0)) 7 (r 7 + 1)
def rPerson (r : Int → Int) (f t c w : Int) : Int → Int := up (up (up (up (up (up r (5030 + 5 * r 8) f) (5030 + 5 * r 8 + 1) t) (5030 + 5 * r 8 + 2) c) (5030 + 5 * r 8 + 3) w) (5030 + 5 * r 8 + 4) (-1)) 8 (r 8 + 1)
section
variable {r r' : Int → Int}
theorem R2s (R : RI r) (h : r' 1 = r 1) (e : ∀ k, 10 ≤ k → k < 30 → r' k = r k) : ∀ k, 0 ≤ k → k < r' 1 → 1800 ≤ r' (10 + 2 * k) ∧ r' (10 + 2 * k) ≤ 1999 ∧ 1 ≤ r' (10 + 2 * k + 1) ∧ r' (10 + 2 * k + 1) ≤ 99 := fun k k0 k1 => by
  have b := R.1
  rw [e _ (by omega) (by omega), e _ (by omega) (by omega)]
  exact R.2.1 k k0 (by omega)
theorem R3s (R : RI r) (h : r' 2 = r 2) (e : ∀ k, 30 ≤ k → k < 430 → r' k = r k) : ∀ k, 0 ≤ k → k < r' 2 → 0 ≤ r' (30 + 2 * k) ∧ r' (30 + 2 * k) ≤ 9999 ∧ 0 ≤ r' (30 + 2 * k + 1) ∧ r' (30 + 2 * k + 1) ≤ 99 := fun k k0 k1 => by
  have b := R.1
  rw [e _ (by omega) (by omega), e _ (by omega) (by omega)]
  exact R.2.2.1 k k0 (by omega)
theorem R4s (R : RI r) (h : r' 3 = r 3) (e : ∀ k, 430 ≤ k → k < 1330 → r' k = r k) : ∀ k, 0 ≤ k → k < r' 3 → 0 ≤ r' (430 + 3 * k) ∧ r' (430 + 3 * k) ≤ 5 ∧ 0 ≤ r' (430 + 3 * k + 1) ∧ r' (430 + 3 * k + 1) ≤ 9999 ∧ 0 ≤ r' (430 + 3 * k + 2) ∧ r' (430 + 3 * k + 2) ≤ 99 := fun k k0 k1 => by
  have b := R.1
  rw [e _ (by omega) (by omega), e _ (by omega) (by omega), e _ (by omega) (by omega)]
  exact R.2.2.2.1 k k0 (by omega)
theorem R5s (R : RI r) (h0 : r 0 ≤ r' 0) (h1 : r 1 ≤ r' 1) (h : r' 4 = r 4) (e : ∀ k, 1330 ≤ k → k < 2230 → r' k = r k) : ∀ k, 0 ≤ k → k < r' 4 → (0 ≤ r' (1330 + 10 * k) ∧ r' (1330 + 10 * k) ≤ 2) ∧ (∀ c, 1 ≤ c → c ≤ 5 → 0 ≤ r' (1330 + 10 * k + c) ∧ r' (1330 + 10 * k + c) ≤ 99) ∧ (0 ≤ r' (1330 + 10 * k + 6) ∧ r' (1330 + 10 * k + 6) < 2 ^ (r' 1).toNat) ∧ (0 ≤ r' (1330 + 10 * k + 7) ∧ r' (1330 + 10 * k + 7) ≤ 9999) ∧ (0 ≤ r' (1330 + 10 * k + 8) ∧ r' (1330 + 10 * k + 8) ≤ r' 0) ∧ (0 ≤ r' (1330 + 10 * k + 9) ∧ r' (1330 + 10 * k + 9) ≤ 519) := fun k k0 k1 => by
  have b := R.1
  have x := pi_rng R k0 (k := k) (by omega)
  rw [e _ (by omega) (by omega), e (1330 + 10 * k + 6) (by omega) (by omega), e (1330 + 10 * k + 7) (by omega) (by omega), e (1330 + 10 * k + 8) (by omega) (by omega), e (1330 + 10 * k + 9) (by omega) (by omega)]
  refine ⟨x.1, fun c c0 c1 => by rw [e _ (by omega) (by omega)]; exact x.2.1 c c0 c1, ⟨x.2.2.1.1, ?_⟩, x.2.2.2.1, by omega, x.2.2.2.2.2⟩
  have p : (2 : Nat) ^ (r 1).toNat ≤ 2 ^ (r' 1).toNat := Nat.pow_le_pow_right (by omega) (by omega)
  have e1 : ((2 ^ (r 1).toNat : Nat) : Int) = 2 ^ (r 1).toNat := by rw [Int.natCast_pow]; rfl
  have e2 : ((2 ^ (r' 1).toNat : Nat) : Int) = 2 ^ (r' 1).toNat := by rw [Int.natCast_pow]; rfl
  omega
theorem R6s (R : RI r) (h : r' 4 = r 4) (e : ∀ k, 1330 ≤ k → k < 2230 → r' k = r k) : ∀ j k, 0 ≤ j → j ≤ k → k < r' 4 → r' (1330 + 10 * j + 8) ≤ r' (1330 + 10 * k + 8) := fun j k k0 k1 k2 => by
  have b := R.1
  rw [e _ (by omega) (by omega), e _ (by omega) (by omega)]
  exact R.2.2.2.2.2.1 j k k0 k1 (by omega)
theorem R7s (R : RI r) (h4 : r 4 ≤ r' 4) (h : r' 5 = r 5) (e : ∀ k, 2230 ≤ k → k < 3430 → r' k = r k) : ∀ k, 0 ≤ k → k < r' 5 → 0 ≤ r' (2230 + 3 * k) ∧ r' (2230 + 3 * k) < r' 4 ∧ 0 ≤ r' (2230 + 3 * k + 1) ∧ r' (2230 + 3 * k + 1) ≤ 9999 ∧ 0 ≤ r' (2230 + 3 * k + 2) ∧ r' (2230 + 3 * k + 2) ≤ 99 := fun k k0 k1 => by
  have b := R.1
  have x := pg_rng R k0 (k := k) (by omega)
  rw [e (2230 + 3 * k) (by omega) (by omega), e (2230 + 3 * k + 1) (by omega) (by omega), e (2230 + 3 * k + 2) (by omega) (by omega)]
  omega
theorem R8s (R : RI r) (h4 : r 4 ≤ r' 4) (h : r' 6 = r 6) (e : ∀ k, 3430 ≤ k → k < 4430 → r' k = r k) : ∀ k, 0 ≤ k → k < r' 6 → 0 ≤ r' (3430 + 5 * k) ∧ r' (3430 + 5 * k) < 8 ∧ 0 ≤ r' (3430 + 5 * k + 1) ∧ r' (3430 + 5 * k + 1) < r' 4 ∧ 0 ≤ r' (3430 + 5 * k + 2) ∧ r' (3430 + 5 * k + 2) ≤ 1 ∧ 0 ≤ r' (3430 + 5 * k + 3) ∧ r' (3430 + 5 * k + 3) ≤ 1 ∧ 0 ≤ r' (3430 + 5 * k + 4) ∧ r' (3430 + 5 * k + 4) ≤ 519 := fun k k0 k1 => by
  have b := R.1
  have x := R.2.2.2.2.2.2.2.1 k k0 (by omega)
  rw [e (3430 + 5 * k) (by omega) (by omega), e (3430 + 5 * k + 1) (by omega) (by omega), e (3430 + 5 * k + 2) (by omega) (by omega), e (3430 + 5 * k + 3) (by omega) (by omega), e (3430 + 5 * k + 4) (by omega) (by omega)]
  omega
theorem R9s (R : RI r) (h0 : r 0 ≤ r' 0) (h1 : r 1 ≤ r' 1) (h4 : r 4 ≤ r' 4) (h : r' 7 = r 7) (e : ∀ k, 4430 ≤ k → k < 5030 → r' k = r k) : ∀ k, 0 ≤ k → k < r' 7 → 0 ≤ r' (4430 + 3 * k) ∧ r' (4430 + 3 * k) < r' 4 ∧ 0 ≤ r' (4430 + 3 * k + 1) ∧ r' (4430 + 3 * k + 1) < r' 1 ∧ 0 ≤ r' (4430 + 3 * k + 2) ∧ r' (4430 + 3 * k + 2) ≤ r' 0 := fun k k0 k1 => by
  have b := R.1
  have x := R.2.2.2.2.2.2.2.2.1 k k0 (by omega)
  rw [e (4430 + 3 * k) (by omega) (by omega), e (4430 + 3 * k + 1) (by omega) (by omega), e (4430 + 3 * k + 2) (by omega) (by omega)]
  omega
theorem R10s (R : RI r) (h : r' 7 = r 7) (e : ∀ k, 4430 ≤ k → k < 5030 → r' k = r k) : ∀ j k, 0 ≤ j → j ≤ k → k < r' 7 → r' (4430 + 3 * j + 2) ≤ r' (4430 + 3 * k + 2) := fun j k k0 k1 k2 => by
  have b := R.1
  rw [e _ (by omega) (by omega), e _ (by omega) (by omega)]
  exact R.2.2.2.2.2.2.2.2.2.1 j k k0 k1 (by omega)
theorem R11s (R : RI r) (h : r' 8 = r 8) (e : ∀ k, 5030 ≤ k → k < 5070 → r' k = r k) : ∀ k, 0 ≤ k → k < r' 8 → 0 ≤ r' (5030 + 5 * k) ∧ r' (5030 + 5 * k) ≤ r' (5030 + 5 * k + 1) ∧ r' (5030 + 5 * k + 1) ≤ 9999 ∧ 0 ≤ r' (5030 + 5 * k + 2) ∧ r' (5030 + 5 * k + 2) ≤ 999 ∧ 0 ≤ r' (5030 + 5 * k + 3) ∧ r' (5030 + 5 * k + 3) ≤ 519 ∧ -1 ≤ r' (5030 + 5 * k + 4) ∧ r' (5030 + 5 * k + 4) ≤ 519 := fun k k0 k1 => by
  have b := R.1
  have x := pe_rng R k0 (e := k) (by omega)
  rw [e _ (by omega) (by omega), e _ (by omega) (by omega), e _ (by omega) (by omega), e _ (by omega) (by omega), e _ (by omega) (by omega)]
  exact x
theorem Tl_cong (b0 : 0 ≤ r 2) (b : r 2 ≤ 200) (h : r' 2 = r 2) (e : ∀ k, 30 ≤ k → k < 430 → r' k = r k) (d : Int) : Tl r' d = Tl r d := by
  unfold Tl
  rw [h]
  exact fst_cong _ _ fun j j0 j1 => by rw [e _ (by omega) (by omega), e _ (by omega) (by omega)]; exact ⟨rfl, rfl⟩
theorem Fl_cong (b0 : 0 ≤ r 3) (b : r 3 ≤ 300) (h : r' 3 = r 3) (e : ∀ k, 430 ≤ k → k < 1330 → r' k = r k) (s d : Int) : Fl r' s d = Fl r s d := by
  unfold Fl
  rw [h]
  exact fst_cong _ _ fun j j0 j1 => by rw [e _ (by omega) (by omega), e _ (by omega) (by omega), e _ (by omega) (by omega)]; exact ⟨rfl, rfl⟩
theorem pc_cong2 (b0 : 0 ≤ r 5) (b : r 5 ≤ 400) (h : r' 5 = r 5) (e : ∀ k, 2230 ≤ k → k < 3430 → r' k = r k) (q : Int → Int → Int → Bool) : pc r' q = pc r q := by
  unfold pc
  rw [h]
  exact cn_cong _ _ fun j j0 j1 => by rw [e _ (by omega) (by omega), e _ (by omega) (by omega), e _ (by omega) (by omega)]
/-! the class's tables over a row that says the same of them -/
variable {c c' : Nat → Int → Int}
theorem C2s (C : CW r c) (h : r' 1 = r 1) (hc : c' 0 = c 0) (e : ∀ k, 10 ≤ k → k < 30 → r' k = r k) : ∀ k, 0 ≤ k → k < 2 * r' 1 → c' 0 k = r' (10 + k) := fun k k0 k1 => by
  have b := C.1.1
  rw [e _ (by omega) (by omega), hc]
  exact C.2.1 k k0 (by omega)
theorem C3s (C : CW r c) (h : r' 2 = r 2) (hc : c' 1 = c 1) (hd : c' 2 = c 2) (e : ∀ k, 30 ≤ k → k < 430 → r' k = r k) : ∀ d, pof (c' 1) (c' 2) (r' 2) d = Tl r' d := fun d => by
  have b := C.1.1
  rw [Tl_cong (by omega) (by omega) h e, hc, hd, h]
  exact C.2.2.1 d
theorem C4s (C : CW r c) (h : r' 3 = r 3) (hc : c' 3 = c 3) (hd : c' 4 = c 4) (e : ∀ k, 430 ≤ k → k < 1330 → r' k = r k) : ∀ s d, 0 ≤ s → s ≤ 5 → 0 ≤ d → d ≤ 9999 → pof (c' 3) (c' 4) (r' 3) (s * 10000 + d) = Fl r' s d := fun s d => by
  have b := C.1.1
  rw [Fl_cong (by omega) (by omega) h e, hc, hd, h]
  exact C.2.2.2.1 s d
theorem C5s (C : CW r c) (h : r' 4 = r 4) (hc : c' 5 = c 5) (e : ∀ k, 1330 ≤ k → k < 2230 → r' k = r k) : ∀ k, 0 ≤ k → k < 10 * r' 4 → c' 5 k = r' (1330 + k) := fun k k0 k1 => by
  have b := C.1.1
  rw [e _ (by omega) (by omega), hc]
  exact C.2.2.2.2.1 k k0 (by omega)
theorem C6s (C : CW r c) (h : r' 5 = r 5) (hc : c' 6 = c 6) (hd : c' 7 = c 7) (e : ∀ k, 2230 ≤ k → k < 3430 → r' k = r k) : ∀ q, cn (fun i => q (c' 6 i / 10000) (c' 6 i % 10000) (c' 7 i)) (r' 5).toNat 0 = pc r' q := fun q => by
  have b := C.1.1
  rw [pc_cong2 (by omega) (by omega) h e, hc, hd, h]
  exact C.2.2.2.2.2.1 q
theorem C7s (C : CW r c) (h4 : r 4 ≤ r' 4) (h : r' 6 = r 6) (hc : c' 8 = c 8) (e : ∀ k, 3430 ≤ k → k < 4430 → r' k = r k) (es : ∀ k, 0 ≤ k → k < r 4 → r' (1330 + 10 * k) = r (1330 + 10 * k)) : ∀ k, 0 ≤ k → k < r' 6 → c' 8 (4 * k) = r' (3430 + 5 * k + 1) ∧ 0 ≤ c' 8 (4 * k + 1) ∧ c' 8 (4 * k + 1) < r' 4 ∧ r' (3430 + 5 * k + 2) = (if r' (1330 + 10 * c' 8 (4 * k + 1)) = 1 then 1 else 0) ∧ c' 8 (4 * k + 2) = r' (3430 + 5 * k + 4) ∧ c' 8 (4 * k + 3) = r' (3430 + 5 * k + 3) := fun k k0 k1 => by
  have b := C.1.1
  obtain ⟨x0, x1, x2, x3, x4, x5⟩ := C.2.2.2.2.2.2.1 k k0 (by omega)
  rw [e (3430 + 5 * k + 1) (by omega) (by omega), e (3430 + 5 * k + 2) (by omega) (by omega), e (3430 + 5 * k + 3) (by omega) (by omega), e (3430 + 5 * k + 4) (by omega) (by omega), hc, es _ x1 x2]
  exact ⟨x0, x1, by omega, x3, x4, x5⟩
theorem C8s (C : CW r c) (h : r' 7 = r 7) (hc : c' 9 = c 9) (e : ∀ k, 4430 ≤ k → k < 5030 → r' k = r k) : ∀ k, 0 ≤ k → k < 3 * r' 7 → c' 9 k = r' (4430 + k) := fun k k0 k1 => by
  have b := C.1.1
  rw [e _ (by omega) (by omega), hc]
  exact C.2.2.2.2.2.2.2.1 k k0 (by omega)
theorem C9s (C : CW r c) (h : r' 8 = r 8) (hc : c' 10 = c 10) (e : ∀ k, 5030 ≤ k → k < 5070 → r' k = r k) : ∀ k, 0 ≤ k → k < 5 * r' 8 → c' 10 k = r' (5030 + k) := fun k k0 k1 => by
  have b := C.1.1
  rw [e _ (by omega) (by omega), hc]
  exact C.2.2.2.2.2.2.2.2 k k0 (by omega)
end
theorem zr_out {g : Int → Int} {a b k : Int} (h : k < a ∨ b ≤ k) : zr g a b k = g k := if_neg (by omega)
theorem zr_in {g : Int → Int} {a b k : Int} (h : a ≤ k) (h' : k < b) : zr g a b k = 0 := if_pos ⟨h, h'⟩
theorem uf_uf (g : Nat → Int → Int) (k : Nat) (x y : Int → Int) : uf (uf g k x) k y = uf g k y := by
  funext j
  unfold uf
  by_cases c : j = k
  · rw [if_pos c, if_pos c]
  · rw [if_neg c, if_neg c, if_neg c]
theorem uf_same (g : Nat → Int → Int) (k : Nat) : uf g k (g k) = g := by
  funext j
  unfold uf
  by_cases c : j = k
  · rw [if_pos c, c]
  · rw [if_neg c]
