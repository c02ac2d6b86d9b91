/-! a CLAUSE of yes -/
theorem KA.endc {h : AH} {x r : Nat} {T : Int → Int} {n c s due sm cl nl once it : Int} {W : List Int} {k0 k1 sz : Int} {cd : Int → Int} (K : KA h x r T n c s due sm cl nl once it W k0 k1 sz cd) (hn : n ≤ 400) (B : ∀ i, 0 ≤ i → i < n → 0 ≤ T i ∧ T i ≤ 255) (d0 : 0 ≤ due) (d1 : due ≤ 6) (hW : ∀ a ∈ W, 0 ≤ a ∧ a ≤ 40 ∧ 1 ≤ clos a) (c17 : cl = 10 ∨ cl = 17) (hd : ∀ h1, KT h1 x r T n c s due sm cl nl once it W k0 k1 sz cd → disp due x h1 = f1_takeBehindClause h1 (x + 24) (x + 22)) : ∃ h1, Fc x r h h1 ∧ PLo x h c = (disp due x h1).bind (fun h2 => PLo x h2 (c + 1)) ∧ (kd T n s ≠ 32 → kd T n s ≠ 33 → FO x r T n c s h1 (disp due x h1) 0) ∧ (kd T n s = 32 → ∃ h2, disp due x h1 = some h2 ∧ KA0 h2 x r T n (c + 1) (bl T n (nx T n s)) 0 cl nl once it k0 k1 (sz + W.length + 1) (up (apd cd sz W) (sz + W.length) cl) ∧ Fc x r h1 h2) ∧ (kd T n s = 33 → ∃ h2, disp due x h1 = some h2 ∧ PLo x h2 (c + 1) = some (I 0, h2) ∧ KZ h2 x r T n k0 k1 (sz + W.length + 1) (up (apd cd sz W) (sz + W.length) cl) ∧ Fc x r h1 h2) := by
  obtain ⟨h1, K1, F1, e1⟩ := K.tok hn B d0 d1
  obtain ⟨X, Y, Z⟩ := K1.clauseEnd hn B d0 d1 hW c17
  have ed := hd h1 K1
  exact ⟨h1, F1, e1, fun a b => by rw [ed]; exact X a b, fun a => by rw [ed]; exact Y a, fun a => by rw [ed]; exact Z a⟩
section
variable {x r m : Nat} {T : Int → Int} {n tx : Int} {hcb : AH} {cb : Int} {hmb : AH} {vb : Nat → Int} {gb : Nat → Int → Int} {se : Int64} {gl : Nat → Int → Int64} {hc hm : AH} {c s it nl cl : Int} {v : Nat → Int} {g : Nat → Int → Int} {a b : Bool} {k0 k1 sz nc : Int} {cd : Int → Int}
theorem RXT.l (X : RXT tx nl it a b k0 k1 sz cd g nc) : 0 ≤ nc ∧ nc ≤ 12 ∧ sz = g 4 tx + nc ∧ 0 ≤ g 4 tx ∧ g 4 tx ≤ 400 ∧ sz ≤ 400 := by
  obtain ⟨⟨t0, t1, t2, t3, t4, -⟩, ⟨x6, x4, -⟩, -⟩ := X
  exact ⟨t0, t1, by omega, by omega, by omega, t3⟩
/-- the reference's last steps of yes -/
theorem RF.yesEnd (R : RF hm m v se g gl T) (e19 : v 19 = tx) (t0 : 0 ≤ tx) (t1 : tx < 14) {B : Int} (b0 : 0 ≤ B) (b1 : B + 3 < 672) : ∃ hm', f9_yes_110 hm m (I B) = some (true, hm') ∧ RF hm' m v se (uf (uf g 5 (up (g 5) (B + 3) (g 4 tx))) 6 (up (g 6) tx (g 6 tx + 1))) gl T ∧ Fr m (m + 24) hm hm' := by
  obtain ⟨m1, f1, M1, G1⟩ := R.1.w5 (i := B + 3) (g 4 tx) (by omega) b1
  have R1 := R.setg M1 (by omega)
  obtain ⟨m2, f2, M2, G2⟩ := M1.w6 (i := tx) (g 6 tx + 1) t0 t1
  rw [uf_ne (by omega)] at M2
  have R2 := RF.setg R1 M2 (by omega)
  have r6 := M1.r6 t0 t1
  rw [uf_ne (by omega)] at r6
  refine ⟨m2, ?_, R2, G1.trans G2⟩
  rw [f9_yes_110, R.1.f5, Option.bind_some, R.1.f4, Option.bind_some, R.1.f19, Option.bind_some, e19, R.1.r4 t0 t1, Option.bind_some]
  simp only [I_lit]
  rw [I_add, f1, Option.bind_some, M1.f6, Option.bind_some, M1.f19, Option.bind_some, e19, r6, Option.bind_some, I_add, f2, Option.bind_some]
theorem FL.q {b' nc' : Int} {hm0 : AH} {v0 : Nat → Int} {g0 : Nat → Int → Int} {cd0 : Int → Int} {nl' once' : Int} {hm' : AH} (L : FL x r m T n tx b' nc' hcb cb hm0 v0 g0 cd0 se gl k0 k1 nl' once' hm') (b0 : 0 ≤ b') (F : Fr m (m + 24) hmb hm0) (G : GR tx vb v0 gb g0) (e19 : v0 19 = tx) (V : VR g0 tx) : QFR x r m T n tx hcb cb hmb vb gb se gl hm' := by
  obtain ⟨hc', v', g', a1, a2, a3, a4, a5, a6, a7, a8, a9⟩ := L
  exact ⟨hc', v', g', a1, a2, a3, a4, a5, a6, F.trans a7, a8, by rw [a9.1 19 (by omega) (by omega) (by omega) (by omega) (by omega) (by omega)]; exact e19, G.gb b0 a9, fun j j0 j1 => by rw [a9.2.1 j (by omega) (by omega) (by omega)]; exact V j j0 j1⟩
set_option maxHeartbeats 4000000 in
theorem RB.yes (Y : RB x r m T n tx hcb cb hmb vb gb se gl hc hm c s it nl v g) (X : RXT tx nl it a b k0 k1 sz cd g nc) (kk : kd T n s = 10) (n12 : nl < 12) {h1 h2 : AH} (F1 : Fc x r hc h1) (e1 : PLo x hc c = (disp 0 x h1).bind (fun h2 => PLo x h2 (c + 1))) (e2 : disp 0 x h1 = some h2) (K2 : KA h2 x r T n (c + 1) (bl T n (nx T n s)) 3 0 10 (nl + 1) (ro a b) it [] k0 k1 sz cd) (F2 : Fc x r h1 h2) {hm2 : AH} {v2 : Nat → Int} (R2 : RF hm2 m v2 se g gl T) (G2 : Fr m (m + 24) hm hm2) (e16 : v2 16 = s) (e22' : v2 22 = nl + 1) (vk : ∀ k, k ≠ 16 → k ≠ 22 → v2 k = v k) : (∃ hm', f9_yes hm2 m = some (false, hm') ∧ QFR x r m T n tx hcb cb hmb vb gb se gl hm') ∨ (∃ hm', f9_yes hm2 m = some (true, hm') ∧ Q1R x r m T n tx hcb cb hmb vb gb se gl (n - s) hm') := by
  have sr := Y.sr
  obtain ⟨⟨FC, PE⟩, ⟨R, FM, ev2, es, w0, e19, e20, e22, G⟩, ⟨t0, t14, n4, V⟩⟩ := Y
  obtain ⟨l0, l1, l2, l3, l4, l5⟩ := X.l
  have B := sr.2.2.1
  have nw := kd_word (T := T) (n := n) (s := s) (by omega)
  have nr := nx_rng B sr.1 sr.2.1 n4
  have n2 := nr.2.2 (by omega)
  have b1 := bl_rng (T := T) nr.2.1
  have w2 : v2 2 = n := by rw [vk 2 (by omega) (by omega)]; exact ev2
  have w19 : v2 19 = tx := by rw [vk 19 (by omega) (by omega)]; exact e19
  have w17 : v2 17 = 0 := by rw [vk 17 (by omega) (by omega)]; exact w0
  have w20 : v2 20 = it := by rw [vk 20 (by omega) (by omega)]; exact e20
  have x6 := X.2.1.1
  have xi := X.2.1
  obtain ⟨m3, f3, R3, G3⟩ := R2.pass (s := s) e16
  rw [w2, ← nw.2] at R3
  obtain ⟨m4, f4, M4, G4⟩ := R3.1.w5 (i := 48 * tx + 4 * nc) (g 4 tx) (by omega) (by omega)
  have R4 := R3.setg M4 (by omega)
  have GR4 : GR tx vb (us v2 16 (nx T n s)) gb (uf g 5 (up (g 5) (48 * tx + 4 * nc) (g 4 tx))) := (G.v fun k a b c d e f i => by rw [us_ne a, vk k a f]).row5 (by omega) (by omega)
  have V4 : VR (uf g 5 (up (g 5) (48 * tx + 4 * nc) (g 4 tx))) tx := fun j j0 j1 => by rw [uf_ne (by omega)]; exact V j j0 j1
  have FM4 : Fr m (m + 24) hmb m4 := ((FM.trans G2).trans G3).trans G4
  have sg4 : sgt (uf g 5 (up (g 5) (48 * tx + 4 * nc) (g 4 tx))) tx = sgt g tx := by funext j; unfold sgt; rw [uf_ne (by omega)]
  have q4 : uf g 5 (up (g 5) (48 * tx + 4 * nc) (g 4 tx)) 4 = g 4 := uf_ne (by omega)
  have J4 : JJ x r m T n tx (g 4 tx) nc hcb cb m4 (us v2 16 (nx T n s)) (uf g 5 (up (g 5) (48 * tx + 4 * nc) (g 4 tx))) cd se gl k0 k1 (nl + 1) (ro a b) h2 m4 (c + 1) (bl T n (nx T n s)) 3 0 10 it [] 0 sz cd (us v2 16 (nx T n s)) (uf g 5 (up (g 5) (48 * tx + 4 * nc) (g 4 tx))) (g 4 tx) [] := by
    refine ⟨⟨K2, (FC.trans F1).trans F2, by rw [PE, e1, e2, Option.bind_some]⟩, ⟨R4, Fr.refl _ _ _, by rw [us_ne (by omega)]; exact w2, by rw [us_eq], by rw [us_ne (by omega)]; exact w17, by rw [us_ne (by omega)]; exact w19, by rw [us_ne (by omega)]; exact w20, ⟨fun _ _ _ _ _ _ _ => rfl, fun _ _ _ _ => rfl, fun _ _ => rfl, fun _ _ => rfl⟩⟩, ⟨?_, ?_, fun _ _ => rfl, Int.le_refl _⟩, ⟨t0, t14, n4, xi.2.2.2.1, xi.2.2.2.2.1, by omega, by omega⟩⟩
    · rw [q4]
      exact ⟨by omega, Nat.le_refl _, by omega, fun j j0 j1 => by omega, fun i hi => by omega⟩
    · rw [q4, sg4]
      refine ⟨by omega, Int.le_refl _, by rw [Int.sub_self]; rfl, fun j j0 j1 => X.1.2.2.2.2.2.2.1 j j0 (by rw [← xi.2.1]; exact j1), xi.2.2.1⟩
  have ebase : f9_yes hm2 m = (f9_sum m4 m).bind fun x40 => (if x40.1 = true then (fR 9 5 x40.2 m).bind fun x49 => (fR 9 4 x40.2 m).bind fun x56 => (fI 9 19 x40.2 m).bind fun x60 => (aI 0 x40.2 x56 x60).bind fun x63 => (sI 0 x40.2 x49 (I (48 * tx + 4 * nc) + (1 : Int32)) x63).bind fun h64 => (fR 9 5 h64 m).bind fun x66 => (sI 0 h64 x66 (I (48 * tx + 4 * nc) + (2 : Int32)) (-1 : Int32)).bind fun h73 => (f9_takesWord h73 m (26982 : Int64)).bind fun x78 => (if x78.1 = true then (fR 9 5 x78.2 m).bind fun x85 => (fR 9 4 x78.2 m).bind fun x92 => (fI 9 19 x78.2 m).bind fun x96 => (aI 0 x78.2 x92 x96).bind fun x99 => (sI 0 x78.2 x85 (I (48 * tx + 4 * nc) + (2 : Int32)) x99).bind fun h100 => (f9_tested h100 m).bind fun x102 => (if x102.1 = true then f9_yes_110 x102.2 m (I (48 * tx + 4 * nc)) else some (false, x102.2)) else f9_yes_110 x78.2 m (I (48 * tx + 4 * nc))) else some (false, x40.2)) := by
    have c3 : us v2 16 (nx T n s) 19 = tx := by rw [us_ne (by omega)]; exact w19
    rw [f9_yes, R2.1.o, Option.bind_some, f3, Option.bind_some, R3.1.f19, Option.bind_some, R3.1.f6, Option.bind_some, Option.bind_some, c3, R3.1.r6 t0 t14, Option.bind_some, Option.bind_some, x6, R3.1.f5, Option.bind_some, R3.1.f4, Option.bind_some, Option.bind_some, R3.1.r4 t0 t14, Option.bind_some]
    simp only [I_lit]
    rw [I_mul, I_mul, I_add, f4, Option.bind_some]
  rw [ebase]
  rcases J4.sum (.inl ⟨rfl, rfl⟩) (fun e W' q => by cases q) (fun e q => by cases q) with ⟨m5, f5, L⟩ | ⟨m5, f5, VV⟩
  · rw [f5, Option.bind_some, if_neg (by simp)]
    exact .inl ⟨m5, rfl, L.q (by omega) FM4 GR4 (by rw [us_ne (by omega)]; exact w19) V4⟩
  obtain ⟨hc5, c5, s5, it5, P, sz5, cd5, v5, g5, J5, q5, p5, -, -, -⟩ := VV
  have sr5 := J5.sr
  have rm5 := J5.room
  rw [List.append_nil] at J5 rm5
  obtain ⟨⟨K5, FC5, PE5⟩, ⟨R5, FM5, ew2, es5, ew17, ew19, ew20, GB5⟩, ⟨C5, S5, cdb5, bbb5⟩, tt5⟩ := J5
  have GR5 := GR4.gb (by omega) GB5
  have V5 : VR g5 tx := fun j j0 j1 => by rw [GB5.2.1 j (by omega) (by omega) (by omega)]; exact V4 j j0 j1
  have r5 : g5 5 = up (g 5) (48 * tx + 4 * nc) (g 4 tx) := by rw [GB5.2.1 5 (by omega) (by omega) (by omega), uf_eq]
  have r6 : g5 6 = g 6 := by rw [GB5.2.1 6 (by omega) (by omega) (by omega), uf_ne (by omega)]
  have r7 : g5 7 = g 7 := by rw [GB5.2.1 7 (by omega) (by omega) (by omega), uf_ne (by omega)]
  have r8 : g5 8 = g 8 := by rw [GB5.2.1 8 (by omega) (by omega) (by omega), uf_ne (by omega)]
  have w22 : v5 22 = nl + 1 := by rw [GB5.1 22 (by omega) (by omega) (by omega) (by omega) (by omega) (by omega), us_ne (by omega)]; exact e22'
  have hP : ∀ a ∈ P, 0 ≤ a ∧ a ≤ 40 ∧ 1 ≤ clos a := fun a ha => by
    have := q5 a ha
    have := (clos_v (e := a) (by omega)).1
    omega
  have cL5 := C5.1
  have cB5 := C5.2.2.1
  have sgeq5 : ∀ j, j < g 4 tx → sgt g5 tx j = sgt g tx j := fun j j1 => by
    unfold sgt
    rw [GB5.2.2.1 _ (by omega), uf_ne (by omega)]
  obtain ⟨m6, f6, M6, G6⟩ := R5.1.w5 (i := 48 * tx + 4 * nc + 1) (g5 4 tx) (by omega) (by omega)
  have R6 := R5.setg M6 (by omega)
  obtain ⟨m7, f7, M7, G7⟩ := M6.w5 (i := 48 * tx + 4 * nc + 2) (-1) (by omega) (by omega)
  have R7 := RF.setg R6 M7 (by omega)
  have g7o : ∀ j, j ≠ 5 → uf (uf g5 5 (up (g5 5) (48 * tx + 4 * nc + 1) (g5 4 tx))) 5 (up (uf g5 5 (up (g5 5) (48 * tx + 4 * nc + 1) (g5 4 tx)) 5) (48 * tx + 4 * nc + 2) (-1)) j = g5 j := fun j hj => by rw [uf_ne hj, uf_ne hj]
  have g75 : uf (uf g5 5 (up (g5 5) (48 * tx + 4 * nc + 1) (g5 4 tx))) 5 (up (uf g5 5 (up (g5 5) (48 * tx + 4 * nc + 1) (g5 4 tx)) 5) (48 * tx + 4 * nc + 2) (-1)) 5 = up (up (g5 5) (48 * tx + 4 * nc + 1) (g5 4 tx)) (48 * tx + 4 * nc + 2) (-1) := by rw [uf_eq, uf_eq]
  have GR7 : GR tx vb v5 gb (uf (uf g5 5 (up (g5 5) (48 * tx + 4 * nc + 1) (g5 4 tx))) 5 (up (uf g5 5 (up (g5 5) (48 * tx + 4 * nc + 1) (g5 4 tx)) 5) (48 * tx + 4 * nc + 2) (-1))) := (GR5.row5 (by omega) (by omega)).row5 (by omega) (by omega)
  generalize eg7 : uf (uf g5 5 (up (g5 5) (48 * tx + 4 * nc + 1) (g5 4 tx))) 5 (up (uf g5 5 (up (g5 5) (48 * tx + 4 * nc + 1) (g5 4 tx)) 5) (48 * tx + 4 * nc + 2) (-1)) = g7 at M7 R7 g7o g75 GR7
  have sgeq7 : sgt g7 tx = sgt g5 tx := by funext j; unfold sgt; rw [g7o 3 (by omega)]
  obtain ⟨m8, f8, R8, G8⟩ := R7.isW (s := s5) (by rw [ew2]; exact es5) wkn_if (by omega) (by omega) (by omega)
  rw [ew2] at f8
  rw [f5, Option.bind_some, if_pos rfl, R5.1.f5, Option.bind_some, R5.1.f4, Option.bind_some, R5.1.f19, Option.bind_some, ew19, R5.1.r4 t0 t14, Option.bind_some]
  simp only [I_lit, I_neg, J_lit]
  rw [I_add, f6, Option.bind_some, M6.f5, Option.bind_some, I_add, f7, Option.bind_some, f9_takesWord, R7.1.o, Option.bind_some, f8, Option.bind_some]
  by_cases z : kd T n s5 = 17
  · have nw5 := kd_word (T := T) (n := n) (s := s5) (by omega)
    have nr5 := nx_rng B sr5.1 sr5.2.1 n4
    have b5 := bl_rng (T := T) nr5.2.1
    have n25 := nr5.2.2 (by omega)
    have y2 : us v5 16 s5 2 = n := by rw [us_ne (by omega)]; exact ew2
    have y19 : us (us v5 16 s5) 16 (nx T n s5) 19 = tx := by rw [us_ne (by omega), us_ne (by omega)]; exact ew19
    obtain ⟨m9, f9, R9, G9⟩ := R8.pass (s := s5) us_eq
    rw [y2, ← nw5.2] at R9
    obtain ⟨mA, fA, MA, GA⟩ := R9.1.w5 (i := 48 * tx + 4 * nc + 2) (g7 4 tx) (by omega) (by omega)
    have RA := R9.setg MA (by omega)
    obtain ⟨hA, KA_, FA, eA⟩ := K5.tok n4 B (by omega) (by omega)
    obtain ⟨hB, aB, KB, FB⟩ := KA_.ifs n4 B z hP
    have edA : disp 5 x hA = f1_takeBehindValue hA (x + 24) (x + 22) := by simp [disp]
    have gAo : ∀ j, j ≠ 5 → uf g7 5 (up (g7 5) (48 * tx + 4 * nc + 2) (g7 4 tx)) j = g5 j := fun j hj => by rw [uf_ne hj]; exact g7o j hj
    have gA5 : uf g7 5 (up (g7 5) (48 * tx + 4 * nc + 2) (g7 4 tx)) 5 = up (g7 5) (48 * tx + 4 * nc + 2) (g7 4 tx) := uf_eq
    have GRA : GR tx vb (us (us v5 16 s5) 16 (nx T n s5)) gb (uf g7 5 (up (g7 5) (48 * tx + 4 * nc + 2) (g7 4 tx))) := (GR7.v fun k a b c d e f i => by rw [us_ne a, us_ne a]).row5 (by omega) (by omega)
    generalize egA : uf g7 5 (up (g7 5) (48 * tx + 4 * nc + 2) (g7 4 tx)) = gA at MA RA gAo gA5 GRA
    rw [g7o 4 (by omega)] at gA5 fA
    have VA : VR gA tx := fun j j0 j1 => by rw [gAo j (by omega)]; exact V5 j j0 j1
    have FMA : Fr m (m + 24) hmb mA := (((((FM4.trans FM5).trans G6).trans G7).trans G8).trans G9).trans GA
    have sgA : sgt gA tx = sgt g5 tx := by funext j; unfold sgt; rw [gAo 3 (by omega)]
    have CA := (CD.emit (Z := P) (Y := []) (by rw [List.append_nil]; exact C5) rfl)
    have JA : JJ x r m T n tx (g5 4 tx) nc hcb cb mA (us (us v5 16 s5) 16 (nx T n s5)) gA (apd cd5 sz5 P) se gl k0 k1 (nl + 1) (ro a b) hB mA (c5 + 1) (bl T n (nx T n s5)) 4 0 17 it5 [] 0 (sz5 + P.length) (apd cd5 sz5 P) (us (us v5 16 s5) 16 (nx T n s5)) gA (g5 4 tx) [] := by
      refine ⟨⟨KB, (FC5.trans FA).trans FB, by rw [PE5, eA, edA, aB, Option.bind_some]⟩, ⟨RA, Fr.refl _ _ _, by rw [us_ne (by omega)]; exact y2, by rw [us_eq], by rw [us_ne (by omega), us_ne (by omega)]; exact ew17, y19, by rw [us_ne (by omega), us_ne (by omega)]; exact ew20, ⟨fun _ _ _ _ _ _ _ => rfl, fun _ _ _ _ => rfl, fun _ _ => rfl, fun _ _ => rfl⟩⟩, ⟨?_, ?_, fun _ _ => rfl, Int.le_refl _⟩, ⟨t0, t14, n4, tt5.2.2.2.1, tt5.2.2.2.2.1, by omega, by omega⟩⟩
      · rw [gAo 4 (by omega)]
        exact ⟨by omega, Nat.le_refl _, by omega, fun j j0 j1 => by omega, fun i hi => by omega⟩
      · rw [gAo 4 (by omega), sgA]
        exact ⟨by omega, Int.le_refl _, by rw [Int.sub_self]; rfl, S5.2.2.2.1, S5.2.2.2.2⟩
    rw [decide_eq_true z, if_pos rfl, f9, Option.bind_some, Option.bind_some, if_pos rfl, R9.1.f5, Option.bind_some, R9.1.f4, Option.bind_some, R9.1.f19, Option.bind_some, y19, R9.1.r4 t0 t14, Option.bind_some, g7o 4 (by omega)]
    dsimp only
    rw [fA, Option.bind_some]
    rcases JA.tested with ⟨mB, fB, L⟩ | ⟨mB, fB, TT⟩
    · rw [fB, Option.bind_some, if_neg (by simp)]
      exact .inl ⟨mB, rfl, L.q (by omega) FMA GRA y19 VA⟩
    obtain ⟨hc9, c9, s9, due9, it9, P9, sz9, cd9, v9, g9, J9, hP9, hd9, h18, h19, hs9⟩ := TT
    have sr9 := J9.sr
    have rm9 := J9.room
    obtain ⟨⟨K9, FC9, PE9⟩, ⟨R9', FM9, ey2, es9, ey17, ey19, ey20, GB9⟩, ⟨C9, S9, cdb9, bbb9⟩, tt9⟩ := J9
    have GR9 := GRA.gb (by omega) GB9
    have cL9 := C9.1
    have cB9 := C9.2.2.1
    obtain ⟨mC, fC, RC, GC⟩ := R9'.yesEnd ey19 t0 t14 (B := 48 * tx + 4 * nc) (by omega) (by omega)
    rw [fB, Option.bind_some, if_pos rfl, fC]
    refine .inr ⟨mC, rfl, ?_⟩
    obtain ⟨hE, FE, eE, O0, O32, O33⟩ := K9.endc n4 B (by omega) (by omega) hP9 (.inr rfl) (fun h1 KT1 => by
      have ed := KT1.bf (by rcases hd9 with ⟨p, q⟩ | p; exact .inl ⟨p, rfl, q⟩; exact .inr p)
      rw [ed, (KT1.other n4 B (by omega) (by omega) h18 h19).2 (bra_0 P9 (fun a ha => (hP9 a ha).2.2))]
      cases f1_takeBehindClause h1 (x + 24) (x + 22) <;> rfl)
    have r95 : g9 5 = up (up (up (up (g 5) (48 * tx + 4 * nc) (g 4 tx)) (48 * tx + 4 * nc + 1) (g5 4 tx)) (48 * tx + 4 * nc + 2) (-1)) (48 * tx + 4 * nc + 2) (g5 4 tx) := by rw [GB9.2.1 5 (by omega) (by omega) (by omega), gA5, g75, r5]
    have r96 : g9 6 = g 6 := by rw [GB9.2.1 6 (by omega) (by omega) (by omega), gAo 6 (by omega), r6]
    have r97 : g9 7 = g 7 := by rw [GB9.2.1 7 (by omega) (by omega) (by omega), gAo 7 (by omega), r7]
    have r98 : g9 8 = g 8 := by rw [GB9.2.1 8 (by omega) (by omega) (by omega), gAo 8 (by omega), r8]
    have gCo : ∀ j, j ≠ 5 → j ≠ 6 → uf (uf g9 5 (up (g9 5) (48 * tx + 4 * nc + 3) (g9 4 tx))) 6 (up (g9 6) tx (g9 6 tx + 1)) j = g9 j := fun j a b => by rw [uf_ne b, uf_ne a]
    have gC5 : uf (uf g9 5 (up (g9 5) (48 * tx + 4 * nc + 3) (g9 4 tx))) 6 (up (g9 6) tx (g9 6 tx + 1)) 5 = up (g9 5) (48 * tx + 4 * nc + 3) (g9 4 tx) := by rw [uf_ne (by omega), uf_eq]
    have gC6 : uf (uf g9 5 (up (g9 5) (48 * tx + 4 * nc + 3) (g9 4 tx))) 6 (up (g9 6) tx (g9 6 tx + 1)) 6 tx = nc + 1 := by rw [uf_eq, up_eq, r96, x6]
    have GRC : GR tx vb v9 gb (uf (uf g9 5 (up (g9 5) (48 * tx + 4 * nc + 3) (g9 4 tx))) 6 (up (g9 6) tx (g9 6 tx + 1))) := by
      have q := (GR9.row5 (i := 48 * tx + 4 * nc + 3) (y := g9 4 tx) (by omega) (by omega)).row (y := g9 6 tx + 1) (k := 6) (by omega) (by omega) (by omega) (by omega)
      rw [uf_ne (by omega)] at q
      exact q
    generalize egC : uf (uf g9 5 (up (g9 5) (48 * tx + 4 * nc + 3) (g9 4 tx))) 6 (up (g9 6) tx (g9 6 tx + 1)) = gC at RC gCo gC5 gC6 GRC
    have sgC : sgt gC tx = sgt g9 tx := by funext j; unfold sgt; rw [gCo 3 (by omega) (by omega)]
    have sg95 : ∀ j, j < g5 4 tx → sgt g9 tx j = sgt g5 tx j := fun j j1 => by
      have : sgt g9 tx j = sgt gA tx j := by unfold sgt; rw [GB9.2.2.1 _ (by omega)]
      rw [this, sgA]
    have CE := (CD.emit (Z := P9) (Y := []) (by rw [List.append_nil]; exact C9) rfl)
    have nl1 : g9 4 tx + nc + 1 ≤ 400 := by omega
    have cl3 : ∀ i, clt gC tx i = (if i = 4 * nc + 3 then g9 4 tx else if i = 4 * nc + 2 then g5 4 tx else if i = 4 * nc + 1 then g5 4 tx else if i = 4 * nc then g 4 tx else clt g tx i) := fun i => by
      unfold clt
      rw [gC5, r95]
      unfold up
      by_cases a3 : i = 4 * nc + 3
      · rw [if_pos (by omega), if_pos a3]
      rw [if_neg (by omega), if_neg a3]
      by_cases a2 : i = 4 * nc + 2
      · rw [if_pos (by omega), if_pos a2]
      rw [if_neg (by omega), if_neg a2, if_neg (by omega)]
      by_cases a1 : i = 4 * nc + 1
      · rw [if_pos (by omega), if_pos a1]
      rw [if_neg (by omega), if_neg a1]
      by_cases a0 : i = 4 * nc
      · rw [if_pos (by omega), if_pos a0]
      rw [if_neg (by omega), if_neg a0]
    have c2 : clt gC tx (4 * nc + 2) = g5 4 tx := by rw [cl3, if_neg (by omega), if_pos rfl]
    have hd2 : ∀ j, g 4 tx ≤ j → j < g9 4 tx → up (apd cd9 sz9 P9) (sz9 + P9.length) 17 (j + nc) = eg (sgt g9 tx) j := fun j j0 j1 => by
      rw [up_ne (by omega)]
      unfold eg
      by_cases y : j < g5 4 tx
      · rw [apd_lt (by omega), cdb9 _ (by omega), CA.2.2.2.1 j (by omega) (by omega), sg95 j y]
      · exact CE.2.2.2.1 j (by omega) (by omega)
    have TXn := TX.add (cd := up (apd cd9 sz9 P9) (sz9 + P9.length) 17) (sg := sgt g9 tx) (cl := clt gC tx) (len1 := g5 4 tx) (len := g9 4 tx) (b := g 4 tx) X.1 (by omega) xi.2.1 (fun j j0 j1 => by rw [sg95 j (by omega), sgeq5 j j1]) (fun j j0 j1 => by rw [cl3, if_neg (by omega), if_neg (by omega), if_neg (by omega), if_neg (by omega)]) (by rw [cl3, if_neg (by omega), if_neg (by omega), if_neg (by omega), if_pos rfl]) (by rw [cl3, if_neg (by omega), if_neg (by omega), if_pos rfl]) (.inr ⟨by rw [cl3, if_neg (by omega), if_pos rfl], S9.2.2.1⟩) (by rw [cl3, if_pos rfl]) (by omega) (by omega) (by rw [rt_same (fun j j0 j1 => sg95 j (by omega))]; exact S5.2.2.1) (fun j j1 => by rw [up_ne (by omega), apd_lt (by omega), cdb9 _ (by omega), apd_lt (by omega), cdb5 _ (by omega)]) hd2 (by rw [show g9 4 tx + nc = sz9 + P9.length by omega, up_eq, c2, if_neg (by omega)]) S9.2.2.2.1 (by have := S9.2.2.2.2; have := tt9.2.2.2.2.1; omega) nl1
    rw [show g9 4 tx + nc + 1 = sz9 + P9.length + 1 by omega] at TXn
    refine ⟨hc9, c9, s9, hE, due9, 17, nl + 1, it9, a, b, k0, k1, sz9 + P9.length + 1, up (apd cd9 sz9 P9) (sz9 + P9.length) 17, v9, gC, nc + 1, ⟨⟨FC9, PE9⟩, ⟨RC, (FMA.trans FM9).trans GC, ey2, es9, ey17, ey19, ey20, ?_, GRC⟩, ⟨t0, t14, n4, fun j j0 j1 => by rw [gCo j (by omega) (by omega), GB9.2.1 j (by omega) (by omega) (by omega)]; exact VA j j0 j1⟩⟩, ⟨by rw [sgC]; exact TXn, ⟨gC6, ?_, ?_, tt9.2.2.2.1, tt9.2.2.2.2.1, by omega, by omega, by omega⟩, fun j j0 j1 => ?_, ?_⟩, by omega, FE, eE, O0, O32, O33⟩
    · rw [GB9.1 22 (by omega) (by omega) (by omega) (by omega) (by omega) (by omega), us_ne (by omega), us_ne (by omega)]; exact w22
    · rw [gCo 4 (by omega) (by omega), TE_s _ l0, cl3, if_pos rfl]
    · rw [gCo 4 (by omega) (by omega), sgC]; exact S9.2.2.2.2
    · by_cases q : j < g 4 tx + nc
      · rw [up_ne (by omega), apd_lt (by omega), cdb9 _ (by omega), apd_lt (by omega), cdb5 _ (by omega)]
        exact X.2.2.1 j j0 (by omega)
      · by_cases q2 : j < g9 4 tx + nc
        · have := hd2 (j - nc) (by omega) (by omega)
          rw [show j - nc + nc = j by omega] at this
          rw [this]
          have er := en_rng (S9.2.2.2.1 (j - nc) (by omega) (by omega))
          show -2147483647 ≤ en _ ∧ en _ < 2147483648
          omega
        · rw [show j = sz9 + P9.length by omega, up_eq]; omega
    · rw [gCo 7 (by omega) (by omega), gCo 8 (by omega) (by omega), r97, r98]; exact X.2.2.2
  · -- no test
    have y19 : us v5 16 s5 19 = tx := by rw [us_ne (by omega)]; exact ew19
    obtain ⟨mC, fC, RC, GC⟩ := R8.yesEnd y19 t0 t14 (B := 48 * tx + 4 * nc) (by omega) (by omega)
    rw [decide_eq_false z, if_neg (by simp), Option.bind_some, if_neg (by simp), fC]
    refine .inr ⟨mC, rfl, ?_⟩
    obtain ⟨hE, FE, eE, O0, O32, O33⟩ := K5.endc n4 B (by omega) (by omega) hP (.inl rfl) (fun h1 KT1 => by
      have ed : disp 5 x h1 = f1_takeBehindValue h1 (x + 24) (x + 22) := by simp [disp]
      rw [ed, (KT1.behind p5.2).2.2.1 rfl z]
      cases f1_takeBehindClause h1 (x + 24) (x + 22) <;> rfl)
    have gCo : ∀ j, j ≠ 5 → j ≠ 6 → uf (uf g7 5 (up (g7 5) (48 * tx + 4 * nc + 3) (g7 4 tx))) 6 (up (g7 6) tx (g7 6 tx + 1)) j = g5 j := fun j a b => by rw [uf_ne b, uf_ne a, g7o j a]
    have gC5 : uf (uf g7 5 (up (g7 5) (48 * tx + 4 * nc + 3) (g7 4 tx))) 6 (up (g7 6) tx (g7 6 tx + 1)) 5 = up (g7 5) (48 * tx + 4 * nc + 3) (g5 4 tx) := by rw [uf_ne (by omega), uf_eq, g7o 4 (by omega)]
    have gC6 : uf (uf g7 5 (up (g7 5) (48 * tx + 4 * nc + 3) (g7 4 tx))) 6 (up (g7 6) tx (g7 6 tx + 1)) 6 tx = nc + 1 := by rw [uf_eq, up_eq, g7o 6 (by omega), r6, x6]
    have GRC : GR tx vb (us v5 16 s5) gb (uf (uf g7 5 (up (g7 5) (48 * tx + 4 * nc + 3) (g7 4 tx))) 6 (up (g7 6) tx (g7 6 tx + 1))) := by
      have q := ((GR7.v (v' := us v5 16 s5) fun k a b c d e f i => us_ne a).row5 (i := 48 * tx + 4 * nc + 3) (y := g7 4 tx) (by omega) (by omega)).row (y := g7 6 tx + 1) (k := 6) (by omega) (by omega) (by omega) (by omega)
      rw [uf_ne (by omega)] at q
      exact q
    generalize egC : uf (uf g7 5 (up (g7 5) (48 * tx + 4 * nc + 3) (g7 4 tx))) 6 (up (g7 6) tx (g7 6 tx + 1)) = gC at RC gCo gC5 gC6 GRC
    have sgC : sgt gC tx = sgt g5 tx := by funext j; unfold sgt; rw [gCo 3 (by omega) (by omega)]
    have CE := (CD.emit (Z := P) (Y := []) (by rw [List.append_nil]; exact C5) rfl)
    have nl1 : g5 4 tx + nc + 1 ≤ 400 := by omega
    have cl3 : ∀ i, clt gC tx i = (if i = 4 * nc + 3 then g5 4 tx else if i = 4 * nc + 2 then -1 else if i = 4 * nc + 1 then g5 4 tx else if i = 4 * nc then g 4 tx else clt g tx i) := fun i => by
      unfold clt
      rw [gC5, g75, r5]
      unfold up
      by_cases a3 : i = 4 * nc + 3
      · rw [if_pos (by omega), if_pos a3]
      rw [if_neg (by omega), if_neg a3]
      by_cases a2 : i = 4 * nc + 2
      · rw [if_pos (by omega), if_pos a2]
      rw [if_neg (by omega), if_neg a2]
      by_cases a1 : i = 4 * nc + 1
      · rw [if_pos (by omega), if_pos a1]
      rw [if_neg (by omega), if_neg a1]
      by_cases a0 : i = 4 * nc
      · rw [if_pos (by omega), if_pos a0]
      rw [if_neg (by omega), if_neg a0]
    have c2 : clt gC tx (4 * nc + 2) = -1 := by rw [cl3, if_neg (by omega), if_pos rfl]
    have hd2 : ∀ j, g 4 tx ≤ j → j < g5 4 tx → up (apd cd5 sz5 P) (sz5 + P.length) 10 (j + nc) = eg (sgt g5 tx) j := fun j j0 j1 => by
      rw [up_ne (by omega)]
      exact CE.2.2.2.1 j (by omega) (by omega)
    have TXn := TX.add (cd := up (apd cd5 sz5 P) (sz5 + P.length) 10) (sg := sgt g5 tx) (cl := clt gC tx) (len1 := g5 4 tx) (len := g5 4 tx) (b := g 4 tx) X.1 (by omega) xi.2.1 (fun j j0 j1 => sgeq5 j j1) (fun j j0 j1 => by rw [cl3, if_neg (by omega), if_neg (by omega), if_neg (by omega), if_neg (by omega)]) (by rw [cl3, if_neg (by omega), if_neg (by omega), if_neg (by omega), if_pos rfl]) (by rw [cl3, if_neg (by omega), if_neg (by omega), if_pos rfl]) (.inl ⟨by rw [cl3, if_neg (by omega), if_pos rfl], rfl⟩) (by rw [cl3, if_pos rfl]) (by omega) (by omega) S5.2.2.1 (fun j j1 => by rw [up_ne (by omega), apd_lt (by omega), cdb5 _ (by omega)]) hd2 (by rw [show g5 4 tx + nc = sz5 + P.length by omega, up_eq, c2, if_pos rfl]) S5.2.2.2.1 (by have := S5.2.2.2.2; have := tt5.2.2.2.2.1; omega) nl1
    rw [show g5 4 tx + nc + 1 = sz5 + P.length + 1 by omega] at TXn
    refine ⟨hc5, c5, s5, hE, 5, 10, nl + 1, it5, a, b, k0, k1, sz5 + P.length + 1, up (apd cd5 sz5 P) (sz5 + P.length) 10, us v5 16 s5, gC, nc + 1, ⟨⟨FC5, PE5⟩, ⟨RC, ((((FM4.trans FM5).trans G6).trans G7).trans G8).trans GC, by rw [us_ne (by omega)]; exact ew2, ?_, by rw [us_ne (by omega)]; exact ew17, y19, by rw [us_ne (by omega)]; exact ew20, by rw [us_ne (by omega)]; exact w22, GRC⟩, ⟨t0, t14, n4, fun j j0 j1 => by rw [gCo j (by omega) (by omega)]; exact V5 j j0 j1⟩⟩, ⟨by rw [sgC]; exact TXn, ⟨gC6, ?_, ?_, tt5.2.2.2.1, tt5.2.2.2.2.1, by omega, by omega, by omega⟩, fun j j0 j1 => ?_, ?_⟩, by omega, FE, eE, O0, O32, O33⟩
    · rw [us_eq]
      have q := bl_bl (T := T) (n := n) (i := v5 16) R5.2.2.1 (by have := R5.2.2.2.1; omega) n4
      rw [es5] at q
      exact q
    · rw [gCo 4 (by omega) (by omega), TE_s _ l0, cl3, if_pos rfl]
    · rw [gCo 4 (by omega) (by omega), sgC]; exact S5.2.2.2.2
    · by_cases q : j < g 4 tx + nc
      · rw [up_ne (by omega), apd_lt (by omega), cdb5 _ (by omega)]
        exact X.2.2.1 j j0 (by omega)
      · by_cases q2 : j < g5 4 tx + nc
        · have := hd2 (j - nc) (by omega) (by omega)
          rw [show j - nc + nc = j by omega] at this
          rw [this]
          have er := en_rng (S5.2.2.2.1 (j - nc) (by omega) (by omega))
          show -2147483647 ≤ en _ ∧ en _ < 2147483648
          omega
        · rw [show j = sz5 + P.length by omega, up_eq]; omega
    · rw [gCo 7 (by omega) (by omega), gCo 8 (by omega) (by omega), r7, r8]; exact X.2.2.2
end
