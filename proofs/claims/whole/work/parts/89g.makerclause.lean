/-! a CLAUSE of a MAKER on both sides -/
def MXT (tx nl : Int) (a b : Bool) (mu : Nat → Int) (ms : Int → Int) (g : Nat → Int → Int) : Prop := ((a = true → g 9 tx = mu 0 ∧ 1 ≤ mu 0 ∧ mu 0 ≤ 99) ∧ (a = false → g 9 tx = -1 ∧ mu 0 = 1) ∧ (b = true → g 10 tx = mu 1 ∧ 0 ≤ mu 1 ∧ mu 1 ≤ 1000) ∧ (b = false → g 10 tx = -1 ∧ mu 1 = 0)) ∧ (g 13 tx = mu 2 ∧ 0 ≤ mu 2 ∧ mu 2 ≤ 1023) ∧ (g 12 tx = mu 4 ∧ 0 ≤ mu 4 ∧ mu 4 ≤ nl ∧ 0 ≤ nl ∧ nl ≤ 12) ∧ (∀ i, 0 ≤ i → i < mu 4 → g 11 (12 * tx + i) = ms i ∧ 0 ≤ ms i ∧ ms i ≤ 5)
def RBm (x r m : Nat) (T : Int → Int) (n tx : Int) (hcb : AH) (cb : Int) (hmb : AH) (vb : Nat → Int) (gb : Nat → Int → Int) (se : Int64) (gl : Nat → Int → Int64) (hc hm : AH) (c s nl : Int) (v : Nat → Int) (g : Nat → Int → Int) : Prop := (Fm x r hcb hc ∧ PLo x hcb cb = PLo x hc c) ∧ (RF hm m v se g gl T ∧ Fr m (m + 24) hmb hm ∧ v 2 = n ∧ bl T n (v 16) = s ∧ v 17 = 0 ∧ v 19 = tx ∧ v 22 = nl ∧ GR tx vb v gb g) ∧ (8 ≤ tx ∧ tx < 14 ∧ n ≤ 400 ∧ VR g tx)
def Q0M (x r m : Nat) (T : Int → Int) (n tx : Int) (hcb : AH) (cb : Int) (hmb : AH) (vb : Nat → Int) (gb : Nat → Int → Int) (se : Int64) (gl : Nat → Int → Int64) (d : Int) (hm : AH) : Prop := ∃ hc c s cl nl a b mu ms v g, RBm x r m T n tx hcb cb hmb vb gb se gl hc hm c s nl v g ∧ KM0 hc x r T n c s 0 cl nl (rom a b) mu ms ∧ MXT tx nl a b mu ms g ∧ n - s = d
def Q1M (x r m : Nat) (T : Int → Int) (n tx : Int) (hcb : AH) (cb : Int) (hmb : AH) (vb : Nat → Int) (gb : Nat → Int → Int) (se : Int64) (gl : Nat → Int → Int64) (d : Int) (hm : AH) : Prop := ∃ hc c s h1 due cl nl a b mu ms v g, RBm x r m T n tx hcb cb hmb vb gb se gl hc hm c s nl v g ∧ MXT tx nl a b mu ms g ∧ n - s < d ∧ Fm x r hc h1 ∧ PLo x hc c = (disp due x h1).bind (fun h2 => PLo x h2 (c + 1)) ∧ (kd T n s ≠ 32 → kd T n s ≠ 33 → FOm x r T n c s h1 (disp due x h1) 0) ∧ (kd T n s = 32 → ∃ h2, disp due x h1 = some h2 ∧ KM0 h2 x r T n (c + 1) (bl T n (nx T n s)) 0 cl nl (rom a b) mu ms ∧ Fm x r h1 h2) ∧ (kd T n s = 33 → ∃ h2, disp due x h1 = some h2 ∧ PLo x h2 (c + 1) = some (I 0, h2) ∧ KZm h2 x r T n mu ms ∧ Fm x r h1 h2)
def QFM (x r m : Nat) (T : Int → Int) (n tx : Int) (hcb : AH) (cb : Int) (hmb : AH) (vb : Nat → Int) (gb : Nat → Int → Int) (se : Int64) (gl : Nat → Int → Int64) (hm : AH) : Prop := ∃ hc v g, PLo x hcb cb = some (I (v 17), hc) ∧ 0 < v 17 ∧ v 17 < 100000 ∧ KFm hc x r T n ∧ Fm x r hcb hc ∧ RF hm m v se g gl T ∧ Fr m (m + 24) hmb hm ∧ v 2 = n ∧ v 19 = tx ∧ GR tx vb v gb g ∧ VR g tx
def QEM (x r m : Nat) (T : Int → Int) (n tx : Int) (hcb : AH) (cb : Int) (hmb : AH) (vb : Nat → Int) (gb : Nat → Int → Int) (se : Int64) (gl : Nat → Int → Int64) (hm : AH) : Prop := ∃ hc v g nl a b mu ms, PLo x hcb cb = some (I 0, hc) ∧ KZm hc x r T n mu ms ∧ Fm x r hcb hc ∧ RF hm m v se g gl T ∧ Fr m (m + 24) hmb hm ∧ v 2 = n ∧ v 17 = 0 ∧ v 19 = tx ∧ GR tx vb v gb g ∧ VR g tx ∧ MXT tx nl a b mu ms g
/-- the reference's rows behind a NUMBER -/
def gm (cl tx z : Int) (g : Nat → Int → Int) : Nat → Int → Int := if cl = 13 then rw1 g 9 tx z else if cl = 14 then rw1 g 10 tx z else if cl = 16 then rw1 g 13 tx (ori (g 13 tx) (2 ^ z.toNat)) else rw1 (uf g 11 (up (g 11) (12 * tx + g 12 tx) z)) 12 tx (g 12 tx + 1)
section
variable {x r m : Nat} {T : Int → Int} {n tx : Int} {hcb : AH} {cb : Int} {hmb : AH} {vb : Nat → Int} {gb : Nat → Int → Int} {se : Int64} {gl : Nat → Int → Int64} {hc hm : AH} {c s nl cl : Int} {v : Nat → Int} {g : Nat → Int → Int} {a b : Bool} {mu : Nat → Int} {ms : Int → Int}
theorem RBm.sr (Y : RBm x r m T n tx hcb cb hmb vb gb se gl hc hm c s nl v g) : 0 ≤ s ∧ s ≤ n ∧ (∀ i, 0 ≤ i → i < n → 0 ≤ T i ∧ T i ≤ 255) ∧ bl T (v 2) (v 16) = s ∧ bl T n s = s := by
  obtain ⟨-, ⟨R, -, e2, es, -⟩, -, -, n4, -⟩ := Y
  have a0 := R.2.2.1
  have a1 := R.2.2.2.1
  have br := bl_rng (T := T) (n := n) (i := v 16) (by omega)
  have bb := bl_bl (T := T) (n := n) (i := v 16) a0 (by omega) n4
  rw [es] at br bb
  exact ⟨by omega, br.2, fun i i0 i1 => R.b i i0 (by omega), by rw [e2]; exact es, bb⟩
theorem RBm.ref (Y : RBm x r m T n tx hcb cb hmb vb gb se gl hc hm c s nl v g) {hm' : AH} {v' : Nat → Int} (R' : RF hm' m v' se g gl T) (F' : Fr m (m + 24) hm hm') (vk : ∀ k, k ≠ 16 → k ≠ 18 → v' k = v k) (e16 : bl T n (v' 16) = s) : RBm x r m T n tx hcb cb hmb vb gb se gl hc hm' c s nl v' g := by
  obtain ⟨CC, ⟨R, FM, e2, es, w0, e19, e22, G⟩, tt⟩ := Y
  exact ⟨CC, ⟨R', FM.trans F', by rw [vk 2 (by omega) (by omega)]; exact e2, e16, by rw [vk 17 (by omega) (by omega)]; exact w0, by rw [vk 19 (by omega) (by omega)]; exact e19, by rw [vk 22 (by omega) (by omega)]; exact e22, G.v fun k a b c d e f i => vk k a c⟩, tt⟩
theorem RBm.see (Y : RBm x r m T n tx hcb cb hmb vb gb se gl hc hm c s nl v g) : ∃ hm', f9_see hm m = some (I (byt T n s), hm') ∧ RBm x r m T n tx hcb cb hmb vb gb se gl hc hm' c s nl (us v 16 s) g := by
  have sr := Y.sr
  obtain ⟨m1, f1, R1, G1⟩ := Y.2.1.1.see sr.2.2.2.1
  rw [Y.2.1.2.2.1] at f1
  exact ⟨m1, f1, Y.ref R1 G1 (fun k a _ => us_ne a) (by rw [us_eq]; exact sr.2.2.2.2)⟩
theorem RBm.isW (Y : RBm x r m T n tx hcb cb hmb vb gb se gl hc hm c s nl v g) {W k : Int} (hW : ∀ P : Int, (P = W) = (wkn P = k)) (W0 : 0 < W) (W1 : W < 9223372036854775808) (k1 : k ≤ 20) : ∃ hm', f9_isWord hm m (J W) = some (decide (kd T n s = k), hm') ∧ RBm x r m T n tx hcb cb hmb vb gb se gl hc hm' c s nl (us v 16 s) g := by
  have sr := Y.sr
  obtain ⟨m1, f1, R1, G1⟩ := Y.2.1.1.isW sr.2.2.2.1 hW W0 W1 k1
  rw [Y.2.1.2.2.1] at f1
  exact ⟨m1, f1, Y.ref R1 G1 (fun k a _ => us_ne a) (by rw [us_eq]; exact sr.2.2.2.2)⟩
theorem RBm.fail (Y : RBm x r m T n tx hcb cb hmb vb gb se gl hc hm c s nl v g) {h1 : AH} {due kk : Int} (F1 : Fm x r hc h1) (e : PLo x hc c = (disp due x h1).bind fun h2 => PLo x h2 (c + 1)) (k0' : 0 ≤ kk) (k1' : kk ≤ 7) (O : FOm x r T n c s h1 (disp due x h1) kk) {hm' : AH} {v' : Nat → Int} (R' : RF hm' m v' se g gl T) (F' : Fr m (m + 24) hm hm') (w : v' 17 = 1 + 8 * s + kk) (vk : ∀ k, k ≠ 16 → k ≠ 17 → k ≠ 18 → k ≠ 22 → v' k = v k) : QFM x r m T n tx hcb cb hmb vb gb se gl hm' := by
  have sr := Y.sr
  obtain ⟨⟨FC, PE⟩, ⟨R, FM, e2, es, w0, e19, e22, G⟩, ⟨t0, t1, n4, V⟩⟩ := Y
  obtain ⟨h2, a1, a2, a3, a4⟩ := O
  exact ⟨h2, v', g, by rw [PE, e, a1, Option.bind_some, a2, w], by omega, by omega, a3, (FC.trans F1).trans a4, R', FM.trans F', by rw [vk 2 (by omega) (by omega) (by omega) (by omega)]; exact e2, by rw [vk 19 (by omega) (by omega) (by omega) (by omega)]; exact e19, G.v fun k a b c d e f i => vk k a b c f, V⟩
theorem Q1M.see {d : Int} (Q : Q1M x r m T n tx hcb cb hmb vb gb se gl d hm) : 0 ≤ d ∧ ((∃ hm1 hm2 p d', f9_see hm m = some (I 59, hm1) ∧ fI 9 16 hm1 m = some (I p) ∧ fS 9 16 hm1 m (.int (I (p + 1))) = some hm2 ∧ d' < d ∧ 0 ≤ d' ∧ Q0M x r m T n tx hcb cb hmb vb gb se gl d' hm2) ∨ (∃ hm1 hm2, f9_see hm m = some (I (-1), hm1) ∧ f9_see hm1 m = some (I (-1), hm2) ∧ QEM x r m T n tx hcb cb hmb vb gb se gl hm2) ∨ (∃ cc hm1 hm2 hm3 p, f9_see hm m = some (I cc, hm1) ∧ I cc ≠ I 59 ∧ I cc ≠ I (-1) ∧ f9_see hm1 m = some (I cc, hm2) ∧ fI 9 16 hm2 m = some (I p) ∧ f9_fails hm2 m (I 0) (I p) = some (false, hm3) ∧ QFM x r m T n tx hcb cb hmb vb gb se gl hm3)) := by
  obtain ⟨hc, c, s, h1, due, cl, nl, a, b, mu, ms, v, g, Y, X, hd, F1, e1, O0, O32, O33⟩ := Q
  have sr := Y.sr
  have n4 := Y.2.2.2.2.1
  have B := sr.2.2.1
  have br := byt_rng (n := n) B sr.1
  have k32 := kd_one (T := T) (n := n) (s := s) (c := 59) (k := 32) rfl (.inr (by omega))
  have k33 := kd_one (T := T) (n := n) (s := s) (c := -1) (k := 33) rfl (.inr (by omega))
  obtain ⟨m1, f1, Y1⟩ := Y.see
  obtain ⟨m2, f2, Y2⟩ := Y1.see
  refine ⟨by omega, ?_⟩
  by_cases z : byt T n s = 59
  · have k := k32.mp z
    have sn : s < n := by have := byt_end (n := n) (s := s) B sr.1; omega
    have nx1 := nx_one (T := T) (n := n) (s := s) k (.inr (by omega))
    have b1 := bl_rng (T := T) (n := n) (i := s + 1) (by omega)
    obtain ⟨m3, f3, R3, G3⟩ := Y1.2.1.1.to (s + 1) (by omega) (by rw [Y1.2.1.2.2.1]; omega)
    obtain ⟨h2, a1, a2, a3⟩ := O32 k
    rw [nx1] at a2
    rw [z] at f1
    refine .inl ⟨m1, m3, s, n - bl T n (s + 1), f1, by rw [Y1.2.1.1.1.f16, us_eq], f3, by omega, by omega, h2, c + 1, bl T n (s + 1), cl, nl, a, b, mu, ms, us (us v 16 s) 16 (s + 1), g, ?_, a2, X, rfl⟩
    obtain ⟨⟨FC, PE⟩, ⟨R, FM, e2, es, w0, e19, e22, G⟩, tt⟩ := Y1
    exact ⟨⟨(FC.trans F1).trans a3, by rw [PE, e1, a1, Option.bind_some]⟩, ⟨R3, FM.trans G3, by rw [us_ne (by omega)]; exact e2, by rw [us_eq], by rw [us_ne (by omega)]; exact w0, by rw [us_ne (by omega)]; exact e19, by rw [us_ne (by omega)]; exact e22, G.v fun k a b c d e f i => us_ne a⟩, tt⟩
  · by_cases y : byt T n s = -1
    · obtain ⟨h2, a1, a2, a3, a4⟩ := O33 (k33.mp y)
      rw [y] at f1 f2
      refine .inr (.inl ⟨m1, m2, f1, f2, ?_⟩)
      obtain ⟨⟨FC, PE⟩, ⟨R, FM, e2, es, w0, e19, e22, G⟩, tt⟩ := Y2
      exact ⟨h2, us (us v 16 s) 16 s, g, nl, a, b, mu, ms, by rw [PE, e1, a1, Option.bind_some, a2], a3, (FC.trans F1).trans a4, R, FM, e2, w0, e19, G, tt.2.2.2, X⟩
    · obtain ⟨m3, f3, R3, G3⟩ := Y2.2.1.1.fails (k := 0) (i := s) Y2.2.1.2.2.2.2.1
      refine .inr (.inr ⟨byt T n s, m1, m2, m3, s, f1, ?_, ?_, f2, by rw [Y2.2.1.1.1.f16, us_eq], f3, ?_⟩)
      · rw [Ne, I_eq (by omega) (by omega) (by omega) (by omega)]; exact z
      · rw [Ne, I_eq (by omega) (by omega) (by omega) (by omega)]; exact y
      · exact Y2.fail F1 e1 (by omega) (by omega) (O0 (fun q => z (k32.mpr q)) (fun q => y (k33.mpr q))) R3 G3 us_eq (fun k a b c d => us_ne b)
/-- what the reference does with a word and its NUMBER -/
def STo (m : Nat) (T : Int → Int) (n tx s cl : Int) (se : Int64) (gl : Nat → Int → Int64) (hm : AH) (v : Nat → Int) (g : Nat → Int → Int) (f : Option (Bool × AH)) : Prop := (¬ isd T n (bl T n (nx T n s)) ∧ ∃ hm' v', f = some (false, hm') ∧ RF hm' m v' se g gl T ∧ v' 17 = 1 + 8 * bl T n (nx T n s) + 0 ∧ (∀ k, k ≠ 16 → k ≠ 17 → k ≠ 18 → v' k = v k) ∧ Fr m (m + 24) hm hm') ∨ ((isd T n (bl T n (nx T n s)) ∧ dend T n (bl T n (nx T n s)) - bl T n (nx T n s) ≤ 5 ∧ mlo cl ≤ nvf T (bl T n (nx T n s)) (dend T n (bl T n (nx T n s)) - bl T n (nx T n s)).toNat ∧ nvf T (bl T n (nx T n s)) (dend T n (bl T n (nx T n s)) - bl T n (nx T n s)).toNat ≤ mhi cl) ∧ ∃ hm' v', f = some (true, hm') ∧ RF hm' m v' se (gm cl tx (nvf T (bl T n (nx T n s)) (dend T n (bl T n (nx T n s)) - bl T n (nx T n s)).toNat) g) gl T ∧ v' 16 = dend T n (bl T n (nx T n s)) ∧ (∀ k, k ≠ 16 → k ≠ 18 → v' k = v k) ∧ Fr m (m + 24) hm hm') ∨ (isd T n (bl T n (nx T n s)) ∧ ¬ (dend T n (bl T n (nx T n s)) - bl T n (nx T n s) ≤ 5 ∧ mlo cl ≤ nvf T (bl T n (nx T n s)) (dend T n (bl T n (nx T n s)) - bl T n (nx T n s)).toNat ∧ nvf T (bl T n (nx T n s)) (dend T n (bl T n (nx T n s)) - bl T n (nx T n s)).toNat ≤ mhi cl) ∧ ∃ hm' v', f = some (false, hm') ∧ RF hm' m v' se g gl T ∧ v' 17 = 1 + 8 * bl T n (nx T n s) + 1 ∧ (∀ k, k ≠ 16 → k ≠ 17 → k ≠ 18 → v' k = v k) ∧ Fr m (m + 24) hm hm')
/-- from (15), of (16): the NUMBER, then what is written -/
theorem RF.numbered (R : RF hm m v se g gl T) (e2 : v 2 = n) (e16 : v 16 = s) (w0 : v 17 = 0) (kw : kd T n s ≤ 20) {κ : AH → Option (Bool × AH)} (hκ : ∀ {hh : AH} {v' : Nat → Int}, RF hh m v' se g gl T → (∀ k, k ≠ 16 → k ≠ 18 → v' k = v k) → 0 ≤ v' 18 → v' 18 ≤ mhi cl → ∃ hm', κ hh = some (true, hm') ∧ RF hm' m v' se (gm cl tx (v' 18) g) gl T ∧ Fr m (m + 24) hh hm') (c15 : cl = 15 ∨ cl = 16) : STo m T n tx s cl se gl hm v g ((f9_passWord hm m).bind fun x1 => (f9_number x1 m (I 0) (I (mhi cl))).bind fun x7 => if x7.1 = true then κ x7.2 else some (false, x7.2)) := by
  have nw := kd_word (T := T) (n := n) (s := s) kw
  have ml : mlo cl = 0 := by rcases c15 with q | q <;> subst q <;> rfl
  have mh : 0 ≤ mhi cl ∧ mhi cl ≤ 9 := by rcases c15 with q | q <;> subst q <;> decide
  obtain ⟨m1, f1, R1, G1⟩ := R.pass (s := s) e16
  rw [e2, ← nw.2] at R1
  have y2 : us v 16 (nx T n s) 2 = n := by rw [us_ne (by omega)]; exact e2
  unfold STo
  rw [ml, f1, Option.bind_some]
  rcases R1.number (s := bl T n (nx T n s)) (by rw [y2, us_eq]) (by rw [us_ne (by omega)]; exact w0) (lo := 0) (hi := mhi cl) (by omega) (by omega) (by omega) (by omega) with ⟨p, m2, f2, R2, G2⟩ | ⟨p, p1, p2, p3, m2, f2, R2, G2⟩ | ⟨p, p1, m2, f2, R2, G2⟩
  · rw [y2] at p
    rw [f2, Option.bind_some, if_neg (by simp)]
    exact .inl ⟨p, m2, _, rfl, R2, us_eq, fun k a b c => by rw [us_ne b, us_ne a, us_ne a], G1.trans G2⟩
  · rw [y2] at p p1 p2 p3 R2
    obtain ⟨m3, f3, R3, G3⟩ := hκ R2 (fun k a b => by rw [us_ne b, us_ne a, us_ne a]) (by rw [us_eq]; exact p2) (by rw [us_eq]; exact p3)
    rw [us_eq] at R3
    rw [f2, Option.bind_some, if_pos rfl, f3]
    exact .inr (.inl ⟨⟨p, p1, p2, p3⟩, m3, _, rfl, R3, by rw [us_ne (by omega), us_eq], fun k a b => by rw [us_ne b, us_ne a, us_ne a], (G1.trans G2).trans G3⟩)
  · rw [y2] at p p1 R2
    rw [f2, Option.bind_some, if_neg (by simp)]
    exact .inr (.inr ⟨p, p1, m2, _, rfl, R2, us_eq, fun k a b c => by rw [us_ne b, us_ne c, us_ne a, us_ne a], G1.trans G2⟩)
theorem RF.sourced (R : RF hm m v se g gl T) (e2 : v 2 = n) (e16 : v 16 = s) (e19 : v 19 = tx) (w0 : v 17 = 0) (kw : kd T n s ≤ 20) (t0 : 0 ≤ tx) (t1 : tx < 14) (q0 : 0 ≤ g 12 tx) (q1 : g 12 tx < 12) : STo m T n tx s 15 se gl hm v g (f9_sourced hm m) := by
  have := RF.numbered (cl := 15) (tx := tx) R e2 e16 w0 kw (κ := fun y => (fR 9 11 y m).bind fun x16 => (fI 9 19 y m).bind fun x22 => (fR 9 12 y m).bind fun x27 => (fI 9 19 y m).bind fun x31 => (aI 0 y x27 x31).bind fun x34 => (fI 9 18 y m).bind fun x37 => (sI 0 y x16 (((12 : Int32) * x22) + x34) x37).bind fun h40 => (fR 9 12 h40 m).bind fun x42 => (fI 9 19 h40 m).bind fun x46 => (aI 0 h40 x42 x46).bind fun x50 => (sI 0 h40 x42 x46 (x50 + (1 : Int32))).bind fun h53 => some (true, h53)) (fun {hh v'} R' vk z0 z1 => by
    have y19 : v' 19 = tx := by rw [vk 19 (by omega) (by omega)]; exact e19
    obtain ⟨m3, f3, M3, G3⟩ := R'.1.w11 (i := 12 * tx + g 12 tx) (v' 18) (by omega) (by omega)
    have R3 := R'.setg M3 (by omega)
    obtain ⟨m4, f4, M4, G4⟩ := R3.1.w12 (i := tx) (g 12 tx + 1) t0 t1
    have R4 := R3.setg M4 (by omega)
    have r12 := R3.1.r12 t0 t1
    rw [uf_ne (by omega)] at r12
    refine ⟨m4, ?_, ?_, G3.trans G4⟩
    · show (fR 9 11 hh m).bind _ = _
      rw [R'.1.f11, Option.bind_some, R'.1.f19, Option.bind_some, R'.1.f12, Option.bind_some, Option.bind_some, y19, R'.1.r12 t0 t1, Option.bind_some, R'.1.f18, Option.bind_some]
      simp only [I_lit]
      rw [I_mul, I_add, f3, Option.bind_some, R3.1.f12, Option.bind_some, R3.1.f19, Option.bind_some, y19, r12, Option.bind_some, I_add, f4, Option.bind_some]
    · unfold gm rw1
      rw [if_neg (by omega), if_neg (by omega), if_neg (by omega)]
      exact R4) (.inl rfl)
  rw [f9_sourced, R.1.o, Option.bind_some]
  exact this
theorem RF.stuffed (R : RF hm m v se g gl T) (e2 : v 2 = n) (e16 : v 16 = s) (e19 : v 19 = tx) (w0 : v 17 = 0) (kw : kd T n s ≤ 20) (t0 : 0 ≤ tx) (t1 : tx < 14) (q0 : 0 ≤ g 13 tx) (q1 : g 13 tx ≤ 1023) : STo m T n tx s 16 se gl hm v g (f9_stuffed hm m) := by
  have := RF.numbered (cl := 16) (tx := tx) R e2 e16 w0 kw (κ := fun y => (fR 9 13 y m).bind fun x17 => (fI 9 19 y m).bind fun x21 => (aI 0 y x17 x21).bind fun x25 => (fI 9 18 y m).bind fun x28 => (sI 0 y x17 x21 (x25 ||| ((1 : Int32) <<< (x28 &&& 31)))).bind fun h33 => some (true, h33)) (fun {hh v'} R' vk z0 z1 => by
    have y19 : v' 19 = tx := by rw [vk 19 (by omega) (by omega)]; exact e19
    have z9 : v' 18 ≤ 9 := z1
    have sh : I 1 <<< (I (v' 18) &&& I 31) = I (2 ^ (v' 18).toNat) := by
      generalize v' 18 = z at z0 z9
      have : z = 0 ∨ z = 1 ∨ z = 2 ∨ z = 3 ∨ z = 4 ∨ z = 5 ∨ z = 6 ∨ z = 7 ∨ z = 8 ∨ z = 9 := by omega
      rcases this with o | o | o | o | o | o | o | o | o | o <;> subst o <;> decide
    have pz : (0 : Int) ≤ 2 ^ (v' 18).toNat ∧ (2 : Int) ^ (v' 18).toNat < 2147483648 := by
      generalize v' 18 = z at z0 z9
      have : z = 0 ∨ z = 1 ∨ z = 2 ∨ z = 3 ∨ z = 4 ∨ z = 5 ∨ z = 6 ∨ z = 7 ∨ z = 8 ∨ z = 9 := by omega
      rcases this with o | o | o | o | o | o | o | o | o | o <;> subst o <;> decide
    obtain ⟨m3, f3, M3, G3⟩ := R'.1.w13 (i := tx) (ori (g 13 tx) (2 ^ (v' 18).toNat)) t0 t1
    have R3 := R'.setg M3 (by omega)
    refine ⟨m3, ?_, ?_, G3⟩
    · show (fR 9 13 hh m).bind _ = _
      rw [R'.1.f13, Option.bind_some, R'.1.f19, Option.bind_some, y19, R'.1.r13 t0 t1, Option.bind_some, R'.1.f18, Option.bind_some]
      simp only [I_lit]
      rw [sh, I_or q0 (by omega) pz.1 pz.2, f3, Option.bind_some]
    · unfold gm rw1
      rw [if_neg (by omega), if_neg (by omega), if_pos rfl]
      exact R3) (.inr rfl)
  rw [f9_stuffed, R.1.o, Option.bind_some]
  exact this
theorem ori_1023 {p z : Int} (p0 : 0 ≤ p) (p1 : p ≤ 1023) (z0 : 0 ≤ z) (z1 : z ≤ 9) : 0 ≤ ori p (2 ^ z.toNat) ∧ ori p (2 ^ z.toNat) ≤ 1023 := by
  have pz : (0 : Int) ≤ 2 ^ z.toNat ∧ (2 : Int) ^ z.toNat < 1024 := by
    have : z = 0 ∨ z = 1 ∨ z = 2 ∨ z = 3 ∨ z = 4 ∨ z = 5 ∨ z = 6 ∨ z = 7 ∨ z = 8 ∨ z = 9 := by omega
    rcases this with o | o | o | o | o | o | o | o | o | o <;> subst o <;> decide
  unfold ori
  have : p.toNat ||| (2 ^ z.toNat : Int).toNat < 2 ^ 10 := Nat.or_lt_two_pow (by omega) (by omega)
  omega
theorem MXT.set {nl z : Int} (X : MXT tx nl a b mu ms g) (c12 : mword cl) (n12 : nl < 12) (z0 : mlo cl ≤ z) (z1 : z ≤ mhi cl) : MXT tx (nl + 1) (if cl = 13 then true else a) (if cl = 14 then true else b) (msu cl z mu) (mss cl z mu ms) (gm cl tx z g) := by
  obtain ⟨⟨A1, A2, B1, B2⟩, ⟨s1, s2, s3⟩, ⟨q1, q2, q3, q4, q5⟩, L⟩ := X
  rcases c12 with q | q | q | q <;> subst q
  · have z0' : 1 ≤ z := z0
    have z1' : z ≤ 99 := z1
    exact ⟨⟨fun _ => ⟨by rw [show gm 13 tx z g = rw1 g 9 tx z from rfl, rw1_at]; rfl, z0', z1'⟩, fun w => (by cases w), fun w => by rw [show gm 13 tx z g = rw1 g 9 tx z from rfl, rw1_ne (by omega)]; exact B1 w, fun w => by rw [show gm 13 tx z g = rw1 g 9 tx z from rfl, rw1_ne (by omega)]; exact B2 w⟩, ⟨by rw [show gm 13 tx z g = rw1 g 9 tx z from rfl, rw1_ne (by omega)]; exact s1, s2, s3⟩, ⟨by rw [show gm 13 tx z g = rw1 g 9 tx z from rfl, rw1_ne (by omega)]; exact q1, q2, by show mu 4 ≤ nl + 1; omega, by omega, by omega⟩, fun i i0 i1 => by rw [show gm 13 tx z g = rw1 g 9 tx z from rfl, rw1_ne (by omega)]; exact L i i0 i1⟩
  · have z0' : 0 ≤ z := z0
    have z1' : z ≤ 1000 := z1
    have e : gm 14 tx z g = rw1 g 10 tx z := rfl
    exact ⟨⟨fun w => by rw [e, rw1_ne (by omega)]; exact A1 w, fun w => by rw [e, rw1_ne (by omega)]; exact A2 w, fun _ => ⟨by rw [e, rw1_at]; rfl, z0', z1'⟩, fun w => (by cases w)⟩, ⟨by rw [e, rw1_ne (by omega)]; exact s1, s2, s3⟩, ⟨by rw [e, rw1_ne (by omega)]; exact q1, q2, by show mu 4 ≤ nl + 1; omega, by omega, by omega⟩, fun i i0 i1 => by rw [e, rw1_ne (by omega)]; exact L i i0 i1⟩
  · have z0' : 0 ≤ z := z0
    have z1' : z ≤ 5 := z1
    have e : gm 15 tx z g = rw1 (uf g 11 (up (g 11) (12 * tx + g 12 tx) z)) 12 tx (g 12 tx + 1) := rfl
    have em : msu 15 z mu = us mu 4 (mu 4 + 1) := rfl
    have es : mss 15 z mu ms = up ms (mu 4) z := rfl
    have en : ∀ j, j ≠ 11 → j ≠ 12 → gm 15 tx z g j = g j := fun j a b => by rw [e, rw1_ne b, uf_ne a]
    refine ⟨⟨fun w => by rw [en 9 (by omega) (by omega)]; exact A1 w, fun w => by rw [en 9 (by omega) (by omega)]; exact A2 w, fun w => by rw [en 10 (by omega) (by omega)]; exact B1 w, fun w => by rw [en 10 (by omega) (by omega)]; exact B2 w⟩, ⟨by rw [en 13 (by omega) (by omega)]; exact s1, s2, s3⟩, ⟨?_, ?_, ?_, by omega, by omega⟩, fun i i0 i1 => ?_⟩
    · rw [e, rw1_at, em, us_eq, q1]
    · rw [em, us_eq]; omega
    · rw [em, us_eq]; omega
    · rw [em, us_eq] at i1
      rw [e, es, rw1_ne (by omega), uf_eq, q1]
      by_cases c : i = mu 4
      · subst c; rw [up_eq, up_eq]; exact ⟨rfl, z0', z1'⟩
      · rw [up_ne (by omega), up_ne c]; exact L i i0 (by omega)
  · have z0' : 0 ≤ z := z0
    have z1' : z ≤ 9 := z1
    have e : gm 16 tx z g = rw1 g 13 tx (ori (g 13 tx) (2 ^ z.toNat)) := rfl
    have o := ori_1023 s2 s3 z0' z1'
    exact ⟨⟨fun w => by rw [e, rw1_ne (by omega)]; exact A1 w, fun w => by rw [e, rw1_ne (by omega)]; exact A2 w, fun w => by rw [e, rw1_ne (by omega)]; exact B1 w, fun w => by rw [e, rw1_ne (by omega)]; exact B2 w⟩, ⟨by rw [e, rw1_at, s1]; rfl, o⟩, ⟨by rw [e, rw1_ne (by omega)]; exact q1, q2, by show mu 4 ≤ nl + 1; omega, by omega, by omega⟩, fun i i0 i1 => by rw [e, rw1_ne (by omega)]; exact L i i0 i1⟩
theorem gm_gr {v0 v' : Nat → Int} {g0 : Nat → Int → Int} {z : Int} (G : GR tx v0 v' g0 g) (c12 : mword cl) (q0 : 0 ≤ g 12 tx) (q1 : g 12 tx < 12) : GR tx v0 v' g0 (gm cl tx z g) := by
  rcases c12 with q | q | q | q <;> subst q
  · exact G.row (k := 9) (by omega) (by omega) (by omega) (by omega)
  · exact G.row (k := 10) (by omega) (by omega) (by omega) (by omega)
  · exact GR.row (G.row11 (i := 12 * tx + g 12 tx) (y := z) (by omega) (by omega)) (k := 12) (by omega) (by omega) (by omega) (by omega)
  · exact G.row (k := 13) (by omega) (by omega) (by omega) (by omega)
theorem gm_vr {z : Int} (V : VR g tx) (c12 : mword cl) (z0 : mlo cl ≤ z) (z1 : z ≤ mhi cl) : VR (gm cl tx z g) tx := fun j j0 j1 => by
  rcases c12 with q | q | q | q <;> subst q
  · have z0' : 1 ≤ z := z0
    have z1' : z ≤ 99 := z1
    rw [show gm 13 tx z g = rw1 g 9 tx z from rfl, rw1_one]
    split
    · omega
    · exact V j j0 j1
  · have z0' : 0 ≤ z := z0
    have z1' : z ≤ 1000 := z1
    rw [show gm 14 tx z g = rw1 g 10 tx z from rfl, rw1_one]
    split
    · omega
    · exact V j j0 j1
  · rw [show gm 15 tx z g = rw1 (uf g 11 (up (g 11) (12 * tx + g 12 tx) z)) 12 tx (g 12 tx + 1) from rfl, rw1_ne (by omega), uf_ne (by omega)]; exact V j j0 j1
  · rw [show gm 16 tx z g = rw1 g 13 tx (ori (g 13 tx) (2 ^ z.toNat)) from rfl, rw1_ne (by omega)]; exact V j j0 j1
theorem RBm.setM (Y : RBm x r m T n tx hcb cb hmb vb gb se gl hc hm c s nl v g) (X : MXT tx nl a b mu ms g) (kk : kd T n s = cl) (c12 : mword cl) (n12 : nl < 12) {h1 h2 : AH} (F1 : Fm x r hc h1) (e1 : PLo x hc c = (disp 0 x h1).bind (fun h2 => PLo x h2 (c + 1))) (e2 : disp 0 x h1 = some h2) (K2 : KM0 h2 x r T n (c + 1) (bl T n (nx T n s)) 1 cl (nl + 1) (if cl = 13 then rom true b else if cl = 14 then rom a true else rom a b) mu ms) (F2 : Fm x r h1 h2) {hm2 : AH} {v2 : Nat → Int} (G2 : Fr m (m + 24) hm hm2) (e22' : v2 22 = nl + 1) (vk : ∀ k, k ≠ 16 → k ≠ 22 → v2 k = v k) {f : Option (Bool × AH)} (ST : STo m T n tx s cl se gl hm2 v2 g f) : (∃ hm', f = some (false, hm') ∧ QFM x r m T n tx hcb cb hmb vb gb se gl hm') ∨ (∃ hm', f = some (true, hm') ∧ Q1M x r m T n tx hcb cb hmb vb gb se gl (n - s) hm') := by
  have sr := Y.sr
  obtain ⟨⟨FC, PE⟩, ⟨R, FM, ev2, es, w0, e19, e22, G⟩, ⟨t0, t14, n4, V⟩⟩ := Y
  have B := sr.2.2.1
  have cr : 13 ≤ cl ∧ cl ≤ 16 := by rcases c12 with q | q | q | q <;> omega
  have nr := nx_rng B sr.1 sr.2.1 n4
  have n2 := nr.2.2 (by omega)
  have b1 := bl_rng (T := T) nr.2.1
  have w2 : v2 2 = n := by rw [vk 2 (by omega) (by omega)]; exact ev2
  have GR2 : GR tx vb v2 gb g := G.v fun k a b c d e f i => vk k a f
  have xq := X.2.2.1
  have xs := X.2.1
  obtain ⟨h3, F3, e3, O0, O1, OK⟩ := K2.setting n4 B c12 (by omega) (by omega) (by omega) (by omega)
  have PE3 : PLo x hcb cb = (disp 1 x h3).bind fun h4 => PLo x h4 (c + 1 + 1) := by rw [PE, e1, e2, Option.bind_some, e3]
  have FC3 := ((FC.trans F1).trans F2).trans F3
  have bad : ∀ {kk' : Int}, 0 ≤ kk' → kk' ≤ 7 → FOm x r T n (c + 1) (bl T n (nx T n s)) h3 (disp 1 x h3) kk' → ∀ {hm' : AH} {v' : Nat → Int}, RF hm' m v' se g gl T → v' 17 = 1 + 8 * bl T n (nx T n s) + kk' → (∀ k, k ≠ 16 → k ≠ 17 → k ≠ 18 → v' k = v2 k) → Fr m (m + 24) hm2 hm' → QFM x r m T n tx hcb cb hmb vb gb se gl hm' := fun {kk'} q0 q1 O {hm' v'} R' w' vk' F' => by
    obtain ⟨h4, a1, a2, a3, a4⟩ := O
    exact ⟨h4, v', g, by rw [PE3, a1, Option.bind_some, a2, w'], by omega, by omega, a3, FC3.trans a4, R', (FM.trans G2).trans F', by rw [vk' 2 (by omega) (by omega) (by omega)]; exact w2, by rw [vk' 19 (by omega) (by omega) (by omega), vk 19 (by omega) (by omega)]; exact e19, GR2.v fun k a b c d e f i => vk' k a b c, V⟩
  rcases ST with ⟨p, m3, v3, f3, R3, x17, vk3, G3⟩ | ⟨p, m3, v3, f3, R3, x16, vk3, G3⟩ | ⟨p, p1, m3, v3, f3, R3, x17, vk3, G3⟩
  · exact .inl ⟨m3, f3, bad (by omega) (by omega) (O0 p) R3 x17 vk3 G3⟩
  · refine .inr ⟨m3, f3, ?_⟩
    obtain ⟨h4, a1, K4, F4⟩ := OK p.1 p.2
    obtain ⟨h5, F5, e5, P0, P32, P33⟩ := K4.behind n4 B c12
    have nxd := nx_dig p.1
    have nr2 := nx_rng B (s := bl T n (nx T n s)) (by omega) b1.2 n4
    have pz := p.2.2
    generalize ez : nvf T (bl T n (nx T n s)) (dend T n (bl T n (nx T n s)) - bl T n (nx T n s)).toNat = z at *
    have GR3 := gm_gr (cl := cl) (z := z) (GR2.v (v' := v3) fun k a b c d e f i => vk3 k a c) c12 (by omega) (by omega)
    refine ⟨h4, c + 1 + 1, _, h5, 2, cl, nl + 1, (if cl = 13 then true else a), (if cl = 14 then true else b), msu cl z mu, mss cl z mu ms, v3, gm cl tx z g, ⟨⟨FC3.trans F4, by rw [PE3, a1, Option.bind_some]⟩, ⟨R3, (FM.trans G2).trans G3, by rw [vk3 2 (by omega) (by omega)]; exact w2, by rw [x16, nxd], by rw [vk3 17 (by omega) (by omega), vk 17 (by omega) (by omega)]; exact w0, by rw [vk3 19 (by omega) (by omega), vk 19 (by omega) (by omega)]; exact e19, by rw [vk3 22 (by omega) (by omega)]; exact e22', GR3⟩, ⟨t0, t14, n4, gm_vr V c12 pz.1 pz.2⟩⟩, X.set c12 n12 pz.1 pz.2, by
      have b2 := bl_rng (T := T) nr2.2.1
      omega, F5, e5, P0, fun q => ?_, P33⟩
    obtain ⟨h6, z1, z2, z3⟩ := P32 q
    refine ⟨h6, z1, ?_, z3⟩
    have er : (if cl = 13 then rom true b else if cl = 14 then rom a true else rom a b) = rom (if cl = 13 then true else a) (if cl = 14 then true else b) := by
      rcases c12 with q | q | q | q <;> subst q <;> rfl
    rw [er] at z2
    exact z2
  · exact .inl ⟨m3, f3, bad (by omega) (by omega) (O1 p p1) R3 x17 vk3 G3⟩
end
