/-! WHAT A WORLD IS: r is the row of numbers that holds all of it (now, how many of each, then the tables) -/
def Tl (r : Int → Int) (d : Int) : Int := fst (fun k => decide (r (30 + 2 * k) = d)) (fun k => r (30 + 2 * k + 1)) (r 2).toNat 0
def Fl (r : Int → Int) (s d : Int) : Int := fst (fun k => decide (r (430 + 3 * k) = s ∧ r (430 + 3 * k + 1) = d)) (fun k => r (430 + 3 * k + 2)) (r 3).toNat 0
def pc (r : Int → Int) (q : Int → Int → Int → Bool) : Int := cn (fun k => q (r (2230 + 3 * k)) (r (2230 + 3 * k + 1)) (r (2230 + 3 * k + 2))) (r 5).toNat 0
/-- what holds of the row at all times -/
def RI (r : Int → Int) : Prop :=
  (0 ≤ r 0 ∧ r 0 ≤ 519 ∧ 0 ≤ r 1 ∧ r 1 ≤ 10 ∧ 0 ≤ r 2 ∧ r 2 ≤ 200 ∧ 0 ≤ r 3 ∧ r 3 ≤ 300 ∧ 0 ≤ r 4 ∧ r 4 ≤ 90 ∧ 0 ≤ r 5 ∧ r 5 ≤ 400 ∧ 0 ≤ r 6 ∧ r 6 ≤ 200 ∧ 0 ≤ r 7 ∧ r 7 ≤ 200 ∧ 0 ≤ r 8 ∧ r 8 ≤ 8) ∧
  (∀ k, 0 ≤ k → k < r 1 → 1800 ≤ r (10 + 2 * k) ∧ r (10 + 2 * k) ≤ 1999 ∧ 1 ≤ r (10 + 2 * k + 1) ∧ r (10 + 2 * k + 1) ≤ 99) ∧
  (∀ k, 0 ≤ k → k < r 2 → 0 ≤ r (30 + 2 * k) ∧ r (30 + 2 * k) ≤ 9999 ∧ 0 ≤ r (30 + 2 * k + 1) ∧ r (30 + 2 * k + 1) ≤ 99) ∧
  (∀ k, 0 ≤ k → k < r 3 → 0 ≤ r (430 + 3 * k) ∧ r (430 + 3 * k) ≤ 5 ∧ 0 ≤ r (430 + 3 * k + 1) ∧ r (430 + 3 * k + 1) ≤ 9999 ∧ 0 ≤ r (430 + 3 * k + 2) ∧ r (430 + 3 * k + 2) ≤ 99) ∧
  (∀ k, 0 ≤ k → k < r 4 → (0 ≤ r (1330 + 10 * k) ∧ r (1330 + 10 * k) ≤ 2) ∧ (∀ c, 1 ≤ c → c ≤ 5 → 0 ≤ r (1330 + 10 * k + c) ∧ r (1330 + 10 * k + c) ≤ 99) ∧ (0 ≤ r (1330 + 10 * k + 6) ∧ r (1330 + 10 * k + 6) < 2 ^ (r 1).toNat) ∧ (0 ≤ r (1330 + 10 * k + 7) ∧ r (1330 + 10 * k + 7) ≤ 9999) ∧ (0 ≤ r (1330 + 10 * k + 8) ∧ r (1330 + 10 * k + 8) ≤ r 0) ∧ (0 ≤ r (1330 + 10 * k + 9) ∧ r (1330 + 10 * k + 9) ≤ 519)) ∧
  (∀ j k, 0 ≤ j → j ≤ k → k < r 4 → r (1330 + 10 * j + 8) ≤ r (1330 + 10 * k + 8)) ∧
  (∀ k, 0 ≤ k → k < r 5 → 0 ≤ r (2230 + 3 * k) ∧ r (2230 + 3 * k) < r 4 ∧ 0 ≤ r (2230 + 3 * k + 1) ∧ r (2230 + 3 * k + 1) ≤ 9999 ∧ 0 ≤ r (2230 + 3 * k + 2) ∧ r (2230 + 3 * k + 2) ≤ 99) ∧
  (∀ k, 0 ≤ k → k < r 6 → 0 ≤ r (3430 + 5 * k) ∧ r (3430 + 5 * k) < 8 ∧ 0 ≤ r (3430 + 5 * k + 1) ∧ r (3430 + 5 * k + 1) < r 4 ∧ 0 ≤ r (3430 + 5 * k + 2) ∧ r (3430 + 5 * k + 2) ≤ 1 ∧ 0 ≤ r (3430 + 5 * k + 3) ∧ r (3430 + 5 * k + 3) ≤ 1 ∧ 0 ≤ r (3430 + 5 * k + 4) ∧ r (3430 + 5 * k + 4) ≤ 519) ∧
  (∀ k, 0 ≤ k → k < r 7 → 0 ≤ r (4430 + 3 * k) ∧ r (4430 + 3 * k) < r 4 ∧ 0 ≤ r (4430 + 3 * k + 1) ∧ r (4430 + 3 * k + 1) < r 1 ∧ 0 ≤ r (4430 + 3 * k + 2) ∧ r (4430 + 3 * k + 2) ≤ r 0) ∧
  (∀ j k, 0 ≤ j → j ≤ k → k < r 7 → r (4430 + 3 * j + 2) ≤ r (4430 + 3 * k + 2)) ∧
  (∀ k, 0 ≤ k → k < r 8 → 0 ≤ r (5030 + 5 * k) ∧ r (5030 + 5 * k) ≤ r (5030 + 5 * k + 1) ∧ r (5030 + 5 * k + 1) ≤ 9999 ∧ 0 ≤ r (5030 + 5 * k + 2) ∧ r (5030 + 5 * k + 2) ≤ 999 ∧ 0 ≤ r (5030 + 5 * k + 3) ∧ r (5030 + 5 * k + 3) ≤ 519 ∧ -1 ≤ r (5030 + 5 * k + 4) ∧ r (5030 + 5 * k + 4) ≤ 519)
/-- how the tables c of the class hold it: 0 stuffs, 1 2 truth, 3 4 facts, 5 pieces, 6 7 pages, 8 looks, 9 tests, 10 people -/
def CW (r : Int → Int) (c : Nat → Int → Int) : Prop :=
  RI r ∧
  (∀ k, 0 ≤ k → k < 2 * r 1 → c 0 k = r (10 + k)) ∧
  (∀ d, pof (c 1) (c 2) (r 2) d = Tl r d) ∧
  (∀ s d, 0 ≤ s → s ≤ 5 → 0 ≤ d → d ≤ 9999 → pof (c 3) (c 4) (r 3) (s * 10000 + d) = Fl r s d) ∧
  (∀ k, 0 ≤ k → k < 10 * r 4 → c 5 k = r (1330 + k)) ∧
  (∀ q, cn (fun i => q (c 6 i / 10000) (c 6 i % 10000) (c 7 i)) (r 5).toNat 0 = pc r q) ∧
  (∀ k, 0 ≤ k → k < r 6 → c 8 (4 * k) = r (3430 + 5 * k + 1) ∧ 0 ≤ c 8 (4 * k + 1) ∧ c 8 (4 * k + 1) < r 4 ∧ r (3430 + 5 * k + 2) = (if r (1330 + 10 * c 8 (4 * k + 1)) = 1 then 1 else 0) ∧ c 8 (4 * k + 2) = r (3430 + 5 * k + 4) ∧ c 8 (4 * k + 3) = r (3430 + 5 * k + 3)) ∧
  (∀ k, 0 ≤ k → k < 3 * r 7 → c 9 k = r (4430 + k)) ∧
  (∀ k, 0 ≤ k → k < 5 * r 8 → c 10 k = r (5030 + k))
def WD (h : AH) (w : Nat) (r : Int → Int) (c : Nat → Int → Int) : Prop :=
  OB h w 7 [.int (I (r 0)), .ref (w + 1), .ref (w + 3), .ref (w + 6), .ref (w + 9), .ref (w + 11), .ref (w + 14), .ref (w + 16), .ref (w + 18)] ∧
  RW h (w + 1) 10 2 (r 1) (c 0) ∧ PL h (w + 3) 200 (r 2) (c 1) (c 2) ∧ PL h (w + 6) 300 (r 3) (c 3) (c 4) ∧ RW h (w + 9) 90 10 (r 4) (c 5) ∧ PL h (w + 11) 400 (r 5) (c 6) (c 7) ∧ RW h (w + 14) 200 4 (r 6) (c 8) ∧ RW h (w + 16) 200 3 (r 7) (c 9) ∧ RW h (w + 18) 8 5 (r 8) (c 10) ∧ CW r c
section
variable {h h' : AH} {w : Nat} {r : Int → Int} {c : Nat → Int → Int}
theorem WD.o (W : WD h w r c) : hObj 7 h w = some [.int (I (r 0)), .ref (w + 1), .ref (w + 3), .ref (w + 6), .ref (w + 9), .ref (w + 11), .ref (w + 14), .ref (w + 16), .ref (w + 18)] := W.1.o
theorem WD.f0 (W : WD h w r c) : fI 7 0 h w = some (I (r 0)) := W.1.i 0 rfl
theorem WD.f1 (W : WD h w r c) : fR 7 1 h w = some (w + 1) := W.1.r 1 rfl
theorem WD.f2 (W : WD h w r c) : fR 7 2 h w = some (w + 3) := W.1.r 2 rfl
theorem WD.f3 (W : WD h w r c) : fR 7 3 h w = some (w + 6) := W.1.r 3 rfl
theorem WD.f4 (W : WD h w r c) : fR 7 4 h w = some (w + 9) := W.1.r 4 rfl
theorem WD.f5 (W : WD h w r c) : fR 7 5 h w = some (w + 11) := W.1.r 5 rfl
theorem WD.f6 (W : WD h w r c) : fR 7 6 h w = some (w + 14) := W.1.r 6 rfl
theorem WD.f7 (W : WD h w r c) : fR 7 7 h w = some (w + 16) := W.1.r 7 rfl
theorem WD.f8 (W : WD h w r c) : fR 7 8 h w = some (w + 18) := W.1.r 8 rfl
theorem WD.st (W : WD h w r c) : RW h (w + 1) 10 2 (r 1) (c 0) := W.2.1
theorem WD.tr (W : WD h w r c) : PL h (w + 3) 200 (r 2) (c 1) (c 2) := W.2.2.1
theorem WD.fa (W : WD h w r c) : PL h (w + 6) 300 (r 3) (c 3) (c 4) := W.2.2.2.1
theorem WD.pi (W : WD h w r c) : RW h (w + 9) 90 10 (r 4) (c 5) := W.2.2.2.2.1
theorem WD.pg (W : WD h w r c) : PL h (w + 11) 400 (r 5) (c 6) (c 7) := W.2.2.2.2.2.1
theorem WD.lo (W : WD h w r c) : RW h (w + 14) 200 4 (r 6) (c 8) := W.2.2.2.2.2.2.1
theorem WD.te (W : WD h w r c) : RW h (w + 16) 200 3 (r 7) (c 9) := W.2.2.2.2.2.2.2.1
theorem WD.pe (W : WD h w r c) : RW h (w + 18) 8 5 (r 8) (c 10) := W.2.2.2.2.2.2.2.2.1
theorem WD.cr (W : WD h w r c) : CW r c := W.2.2.2.2.2.2.2.2.2
theorem WD.ri (W : WD h w r c) : RI r := W.cr.1
theorem WD.fr (W : WD h w r c) {lo hi : Nat} (f : Fr lo hi h h') (d : w + 20 ≤ lo ∨ hi ≤ w) : WD h' w r c := ⟨W.1.at (f.2 _ (by omega)), W.st.fr f (by omega), W.tr.fr f (by omega), W.fa.fr f (by omega), W.pi.fr f (by omega), W.pg.fr f (by omega), W.lo.fr f (by omega), W.te.fr f (by omega), W.pe.fr f (by omega), W.cr⟩
/-! one field of a piece, of a stuff .. -/
theorem WD.pAt (W : WD h w r c) {p k : Int} (h0 : 0 ≤ p) (h1 : p < r 4) (k0 : 0 ≤ k) (k1 : k < 10) : f5_at h (w + 9) (I p) (I k) = some (I (r (1330 + 10 * p + k))) := by
  rw [W.pi.at h0 h1 k0 k1, W.cr.2.2.2.2.1 _ (by omega) (by omega)]
  congr 3
  omega
theorem WD.sAt (W : WD h w r c) {p k : Int} (h0 : 0 ≤ p) (h1 : p < r 1) (k0 : 0 ≤ k) (k1 : k < 2) : f5_at h (w + 1) (I p) (I k) = some (I (r (10 + 2 * p + k))) := by
  rw [W.st.at h0 h1 k0 k1, W.cr.2.1 _ (by omega) (by omega)]
  congr 3
  omega
theorem WD.tAt (W : WD h w r c) {p k : Int} (h0 : 0 ≤ p) (h1 : p < r 7) (k0 : 0 ≤ k) (k1 : k < 3) : f5_at h (w + 16) (I p) (I k) = some (I (r (4430 + 3 * p + k))) := by
  rw [W.te.at h0 h1 k0 k1, W.cr.2.2.2.2.2.2.2.1 _ (by omega) (by omega)]
  congr 3
  omega
theorem WD.eAt (W : WD h w r c) {p k : Int} (h0 : 0 ≤ p) (h1 : p < r 8) (k0 : 0 ≤ k) (k1 : k < 5) : f5_at h (w + 18) (I p) (I k) = some (I (r (5030 + 5 * p + k))) := by
  rw [W.pe.at h0 h1 k0 k1, W.cr.2.2.2.2.2.2.2.2 _ (by omega) (by omega)]
  congr 3
  omega
theorem WD.pAt0 (W : WD h w r c) {p : Int} (h0 : 0 ≤ p) (h1 : p < r 4) : f5_at h (w + 9) (I p) (I 0) = some (I (r (1330 + 10 * p))) := by
  rw [W.pAt h0 h1 (by omega) (by omega), Int.add_zero]
theorem WD.sAt0 (W : WD h w r c) {p : Int} (h0 : 0 ≤ p) (h1 : p < r 1) : f5_at h (w + 1) (I p) (I 0) = some (I (r (10 + 2 * p))) := by
  rw [W.sAt h0 h1 (by omega) (by omega), Int.add_zero]
theorem WD.tAt0 (W : WD h w r c) {p : Int} (h0 : 0 ≤ p) (h1 : p < r 7) : f5_at h (w + 16) (I p) (I 0) = some (I (r (4430 + 3 * p))) := by
  rw [W.tAt h0 h1 (by omega) (by omega), Int.add_zero]
theorem WD.eAt0 (W : WD h w r c) {p : Int} (h0 : 0 ≤ p) (h1 : p < r 8) : f5_at h (w + 18) (I p) (I 0) = some (I (r (5030 + 5 * p))) := by
  rw [W.eAt h0 h1 (by omega) (by omega), Int.add_zero]
end
