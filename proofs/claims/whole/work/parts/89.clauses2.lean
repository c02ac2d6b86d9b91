/-! what stands of a text when some CLAUSES are read (RX); the frames of the reference's rows (GR) -/
def clt (g : Nat → Int → Int) (tx : Int) : Int → Int := fun j => g 5 (48 * tx + j)
def GR (tx : Int) (v0 v : Nat → Int) (g0 g : Nat → Int → Int) : Prop := (∀ k, k ≠ 16 → k ≠ 17 → k ≠ 18 → k ≠ 20 → k ≠ 21 → k ≠ 22 → k ≠ 24 → v k = v0 k) ∧ (∀ j, (j < 3 ∨ 14 < j) → g j = g0 j) ∧ (∀ i, ¬ (400 * tx ≤ i ∧ i < 400 * tx + 400) → g 3 i = g0 3 i) ∧ (∀ i, ¬ (48 * tx ≤ i ∧ i < 48 * tx + 48) → g 5 i = g0 5 i) ∧ (∀ i, ¬ (12 * tx ≤ i ∧ i < 12 * tx + 12) → g 11 i = g0 11 i) ∧ (∀ j, j ≠ 3 → j ≠ 5 → j ≠ 11 → j ≠ 14 → ∀ i, i ≠ tx → g j i = g0 j i)
theorem GR.refl (tx : Int) (v : Nat → Int) (g : Nat → Int → Int) : GR tx v v g g := ⟨fun _ _ _ _ _ _ _ _ => rfl, fun _ _ => rfl, fun _ _ => rfl, fun _ _ => rfl, fun _ _ => rfl, fun _ _ _ _ _ _ _ => rfl⟩
theorem GR.v {tx : Int} {v0 v v' : Nat → Int} {g0 g : Nat → Int → Int} (G : GR tx v0 v g0 g) (h : ∀ k, k ≠ 16 → k ≠ 17 → k ≠ 18 → k ≠ 20 → k ≠ 21 → k ≠ 22 → k ≠ 24 → v' k = v k) : GR tx v0 v' g0 g := ⟨fun k a b c d e f i => by rw [h k a b c d e f i]; exact G.1 k a b c d e f i, G.2⟩
theorem GR.gb {tx b : Int} {v0 v v' : Nat → Int} {g0 g g' : Nat → Int → Int} (G : GR tx v0 v g0 g) (b0 : 0 ≤ b) (H : GB tx b v v' g g') : GR tx v0 v' g0 g' := by
  refine ⟨fun k a b c d e f i => by rw [H.1 k a b c d e i]; exact G.1 k a b c d e f i, fun j hj => by rw [H.2.1 j (by omega) (by omega) (by omega)]; exact G.2.1 j hj, fun i hi => by rw [H.2.2.1 i (by omega)]; exact G.2.2.1 i hi, fun i hi => by rw [H.2.1 5 (by omega) (by omega) (by omega)]; exact G.2.2.2.1 i hi, fun i hi => by rw [H.2.1 11 (by omega) (by omega) (by omega)]; exact G.2.2.2.2.1 i hi, fun j a b c d i hi => ?_⟩
  by_cases z : j = 4
  · subst z; rw [H.2.2.2 i hi]; exact G.2.2.2.2.2 4 a b c d i hi
  · rw [H.2.1 j a z d]; exact G.2.2.2.2.2 j a b c d i hi
theorem GR.row5 {tx i y : Int} {v0 v : Nat → Int} {g0 g : Nat → Int → Int} (G : GR tx v0 v g0 g) (h0 : 48 * tx ≤ i) (h1 : i < 48 * tx + 48) : GR tx v0 v g0 (uf g 5 (up (g 5) i y)) := ⟨G.1, fun j hj => by rw [uf_ne (by omega)]; exact G.2.1 j hj, fun i hi => by rw [uf_ne (by omega)]; exact G.2.2.1 i hi, fun k hk => by rw [uf_eq, up_ne (by omega)]; exact G.2.2.2.1 k hk, fun i hi => by rw [uf_ne (by omega)]; exact G.2.2.2.2.1 i hi, fun j a b c d i hi => by rw [uf_ne b]; exact G.2.2.2.2.2 j a b c d i hi⟩
theorem GR.row11 {tx i y : Int} {v0 v : Nat → Int} {g0 g : Nat → Int → Int} (G : GR tx v0 v g0 g) (h0 : 12 * tx ≤ i) (h1 : i < 12 * tx + 12) : GR tx v0 v g0 (uf g 11 (up (g 11) i y)) := ⟨G.1, fun j hj => by rw [uf_ne (by omega)]; exact G.2.1 j hj, fun i hi => by rw [uf_ne (by omega)]; exact G.2.2.1 i hi, fun i hi => by rw [uf_ne (by omega)]; exact G.2.2.2.1 i hi, fun k hk => by rw [uf_eq, up_ne (by omega)]; exact G.2.2.2.2.1 k hk, fun j a b c d i hi => by rw [uf_ne c]; exact G.2.2.2.2.2 j a b c d i hi⟩
theorem GR.row {tx y : Int} {v0 v : Nat → Int} {g0 g : Nat → Int → Int} (G : GR tx v0 v g0 g) {k : Nat} (k0 : 3 < k) (k1 : k < 14) (k5 : k ≠ 5) (k11 : k ≠ 11) : GR tx v0 v g0 (uf g k (up (g k) tx y)) := by
  refine ⟨G.1, fun j hj => by rw [uf_ne (by omega)]; exact G.2.1 j hj, fun i hi => by rw [uf_ne (by omega)]; exact G.2.2.1 i hi, fun i hi => by rw [uf_ne (by omega)]; exact G.2.2.2.1 i hi, fun i hi => by rw [uf_ne (by omega)]; exact G.2.2.2.2.1 i hi, fun j a b c d i hi => ?_⟩
  by_cases z : j = k
  · subst z; rw [uf_eq, up_ne hi]; exact G.2.2.2.2.2 j a b c d i hi
  · rw [uf_ne z]; exact G.2.2.2.2.2 j a b c d i hi
theorem TE_cong {cl cl' : Int → Int} {nc c : Int} (h : ∀ j, 0 ≤ j → j < 4 * nc → cl' j = cl j) (c0 : 0 ≤ c) (c1 : c ≤ nc) : TE cl' c = TE cl c := by
  unfold TE
  by_cases z : c = 0
  · rw [if_pos z, if_pos z]
  · rw [if_neg z, if_neg z, h _ (by omega) (by omega)]
theorem rt_same {sg sg' : Int → Int} {k : Nat} {i : Int} {B : List Bool} (h : ∀ j, i ≤ j → j < i + k → sg' j = sg j) : rt (eg sg') k i B = rt (eg sg) k i B := by
  have := rt_cong (cd := eg sg') (cd' := eg sg) (s := 0) k i B (fun j j0 j1 => by unfold eg; rw [show j + 0 = j by omega, h j j0 j1])
  rw [show i + 0 = i by omega] at this
  exact this
theorem cn_same {sg sg' : Int → Int} {k : Nat} {i : Int} (h : ∀ j, i ≤ j → j < i + k → sg' j = sg j) : cn (fun j => decide (eg sg' j < 10)) k i = cn (fun j => decide (eg sg j < 10)) k i := by
  have := cn_shift2 (q := fun j => decide (eg sg j < 10)) (q' := fun j => decide (eg sg' j < 10)) (s := 0) k i (fun j j0 j1 => by
    show decide (eg sg' (j + 0) < 10) = _
    unfold eg
    rw [show j + 0 = j by omega, h j j0 j1])
  rw [show i + 0 = i by omega] at this
  exact this
/-- a text says the same where its signs and clauses are the same -/
theorem TX.cong {cd sg sg' cl cl' : Int → Int} {sz nc : Int} (X : TX cd sz sg cl nc) (hs : ∀ j, 0 ≤ j → j < 400 → sg' j = sg j) (hc : ∀ j, 0 ≤ j → j < 48 → cl' j = cl j) : TX cd sz sg' cl' nc := by
  obtain ⟨t0, t1, t2, t3, t4, tc, ts, tn⟩ := X
  have e : ∀ c, 0 ≤ c → c ≤ nc → TE cl' c = TE cl c := fun c c0 c1 => TE_cong (nc := nc) (fun j j0 j1 => hc j j0 (by omega)) c0 c1
  have en_ := e nc t0 (Int.le_refl _)
  refine ⟨t0, t1, by rw [en_]; exact t2, t3, by rw [en_]; exact t4, fun c c0 c1 => ?_, fun j j0 j1 => by rw [hs j j0 (by omega)]; exact ts j j0 (by omega), by rw [en_, cn_same (fun j j0 j1 => hs j j0 (by omega))]; exact tn⟩
  obtain ⟨x0, x1, x2, x3, x4, x5, x6, x7, x8⟩ := tc c c0 c1
  rw [hc (4 * c) (by omega) (by omega), hc (4 * c + 1) (by omega) (by omega), hc (4 * c + 2) (by omega) (by omega), hc (4 * c + 3) (by omega) (by omega), e c c0 (by omega), en_]
  refine ⟨x0, x1, x2, x3, x4, ?_, ?_, fun j j0 j1 => by rw [x7 j j0 j1]; unfold eg; rw [hs j (by omega) (by omega)], x8⟩
  · rcases x5 with y | ⟨y1, y2⟩
    · exact .inl y
    · exact .inr ⟨y1, by rw [rt_same (fun j j0 j1 => hs j (by omega) (by omega))]; exact y2⟩
  · rw [rt_same (fun j j0 j1 => hs j (by omega) (by omega))]; exact x6
/-- one CLAUSE of yes more -/
theorem TX.add {cd0 cd sg0 sg cl0 cl : Int → Int} {sz0 nc b len1 len : Int} (X : TX cd0 sz0 sg0 cl0 nc) (n12 : nc < 12) (eb : b = TE cl0 nc) (hs : ∀ j, 0 ≤ j → j < b → sg j = sg0 j) (hc : ∀ j, 0 ≤ j → j < 4 * nc → cl j = cl0 j) (e0 : cl (4 * nc) = b) (e1 : cl (4 * nc + 1) = len1) (e2 : (cl (4 * nc + 2) = -1 ∧ len = len1) ∨ (cl (4 * nc + 2) = len1 ∧ rt (eg sg) (len - len1).toNat len1 [] = some [true])) (e3 : cl (4 * nc + 3) = len) (l0 : b ≤ len1) (l1 : len1 ≤ len) (r : rt (eg sg) (len1 - b).toNat b [] = some [false]) (hd : ∀ j, j < sz0 → cd j = cd0 j) (hd2 : ∀ j, b ≤ j → j < len → cd (j + nc) = eg sg j) (last : cd (len + nc) = (if cl (4 * nc + 2) = -1 then 10 else 17)) (sk : ∀ j, 0 ≤ j → j < len → sgk (sg j)) (c60 : cn (fun j => decide (eg sg j < 10)) len.toNat 0 ≤ 60) (l4 : len + nc + 1 ≤ 400) : TX cd (len + nc + 1) sg cl (nc + 1) := by
  obtain ⟨t0, t1, t2, t3, t4, tc, ts, tn⟩ := X
  have te : ∀ c, 0 ≤ c → c ≤ nc → TE cl c = TE cl0 c := fun c c0 c1 => TE_cong hc c0 c1
  have tl : TE cl (nc + 1) = len := by rw [TE_s cl t0, e3]
  refine ⟨by omega, by omega, by rw [tl]; omega, l4, by rw [tl]; omega, fun c c0 c1 => ?_, fun j j0 j1 => sk j j0 (by rw [tl] at j1; exact j1), by rw [tl]; exact c60⟩
  by_cases z : c = nc
  · subst z
    rw [e0, e1, e3, te c t0 (Int.le_refl _), ← eb, tl]
    refine ⟨by omega, rfl, l0, l1, Int.le_refl _, ?_, r, hd2, last⟩
    rcases e2 with ⟨y1, y2⟩ | y
    · exact .inl ⟨y1, y2⟩
    · exact .inr y
  · obtain ⟨x0, x1, x2, x3, x4, x5, x6, x7, x8⟩ := tc c c0 (by omega)
    rw [hc (4 * c) (by omega) (by omega), hc (4 * c + 1) (by omega) (by omega), hc (4 * c + 2) (by omega) (by omega), hc (4 * c + 3) (by omega) (by omega), te c c0 (by omega), tl]
    refine ⟨x0, x1, x2, x3, by omega, ?_, ?_, fun j j0 j1 => by rw [hd _ (by omega), x7 j j0 j1]; unfold eg; rw [hs j (by omega) (by omega)], by rw [hd _ (by omega)]; exact x8⟩
    · rcases x5 with y | ⟨y1, y2⟩
      · exact .inl y
      · exact .inr ⟨y1, by rw [rt_same (fun j j0 j1 => hs j (by omega) (by omega))]; exact y2⟩
    · rw [rt_same (fun j j0 j1 => hs j (by omega) (by omega))]; exact x6
def RXT (tx nl it : Int) (a b : Bool) (k0 k1 sz : Int) (cd : Int → Int) (g : Nat → Int → Int) (nc : Int) : Prop := TX cd sz (sgt g tx) (clt g tx) nc ∧ (g 6 tx = nc ∧ g 4 tx = TE (clt g tx) nc ∧ cn (fun j => decide (eg (sgt g tx) j < 10)) (g 4 tx).toNat 0 ≤ it ∧ 0 ≤ it ∧ it ≤ 60 ∧ 0 ≤ nl ∧ nl ≤ 12 ∧ nc ≤ nl) ∧ (∀ j, 0 ≤ j → j < sz → -2147483647 ≤ cd j ∧ cd j < 2147483648) ∧ ((a = true → g 7 tx = k0 ∧ 1 ≤ k0 ∧ k0 ≤ 99) ∧ (a = false → g 7 tx = -1 ∧ k0 = 1) ∧ (b = true → g 8 tx = k1 ∧ 1 ≤ k1 ∧ k1 ≤ 999) ∧ (b = false → g 8 tx = -1 ∧ k1 = 1))
/-- what is set of a text so far: in such bounds -/
def VR (g : Nat → Int → Int) (tx : Int) : Prop := ∀ j, 7 ≤ j → j ≤ 10 → -1 ≤ g j tx ∧ g j tx ≤ 1000
def RB (x r m : Nat) (T : Int → Int) (n tx : Int) (hcb : AH) (cb : Int) (hmb : AH) (vb : Nat → Int) (gb : Nat → Int → Int) (se : Int64) (gl : Nat → Int → Int64) (hc hm : AH) (c s it nl : Int) (v : Nat → Int) (g : Nat → Int → Int) : Prop := (Fc x r hcb hc ∧ PLo x hcb cb = PLo x hc c) ∧ (RF hm m v se g gl T ∧ Fr m (m + 24) hmb hm ∧ v 2 = n ∧ bl T n (v 16) = s ∧ v 17 = 0 ∧ v 19 = tx ∧ v 20 = it ∧ v 22 = nl ∧ GR tx vb v gb g) ∧ (0 ≤ tx ∧ tx < 14 ∧ n ≤ 400 ∧ VR g tx)
/-- ahead of a CLAUSE; behind a good one; a FAULT; the end -/
def Q0R (x r m : Nat) (T : Int → Int) (n tx : Int) (hcb : AH) (cb : Int) (hmb : AH) (vb : Nat → Int) (gb : Nat → Int → Int) (se : Int64) (gl : Nat → Int → Int64) (d : Int) (hm : AH) : Prop := ∃ hc c s cl nl it a b k0 k1 sz cd v g nc, RB x r m T n tx hcb cb hmb vb gb se gl hc hm c s it nl v g ∧ KA0 hc x r T n c s 0 cl nl (ro a b) it k0 k1 sz cd ∧ RXT tx nl it a b k0 k1 sz cd g nc ∧ n - s = d
def Q1R (x r m : Nat) (T : Int → Int) (n tx : Int) (hcb : AH) (cb : Int) (hmb : AH) (vb : Nat → Int) (gb : Nat → Int → Int) (se : Int64) (gl : Nat → Int → Int64) (d : Int) (hm : AH) : Prop := ∃ hc c s h1 due cl nl it a b k0 k1 sz cd v g nc, RB x r m T n tx hcb cb hmb vb gb se gl hc hm c s it nl v g ∧ RXT tx nl it a b k0 k1 sz cd g nc ∧ n - s < d ∧ Fc x r hc h1 ∧ PLo x hc c = (disp due x h1).bind (fun h2 => PLo x h2 (c + 1)) ∧ (kd T n s ≠ 32 → kd T n s ≠ 33 → FO x r T n c s h1 (disp due x h1) 0) ∧ (kd T n s = 32 → ∃ h2, disp due x h1 = some h2 ∧ KA0 h2 x r T n (c + 1) (bl T n (nx T n s)) 0 cl nl (ro a b) it k0 k1 sz cd ∧ Fc x r h1 h2) ∧ (kd T n s = 33 → ∃ h2, disp due x h1 = some h2 ∧ PLo x h2 (c + 1) = some (I 0, h2) ∧ KZ h2 x r T n k0 k1 sz cd ∧ Fc x r h1 h2)
def QFR (x r m : Nat) (T : Int → Int) (n tx : Int) (hcb : AH) (cb : Int) (hmb : AH) (vb : Nat → Int) (gb : Nat → Int → Int) (se : Int64) (gl : Nat → Int → Int64) (hm : AH) : Prop := ∃ hc v g, PLo x hcb cb = some (I (v 17), hc) ∧ 0 < v 17 ∧ v 17 < 100000 ∧ KF hc x r T n ∧ Fc x r hcb hc ∧ RF hm m v se g gl T ∧ Fr m (m + 24) hmb hm ∧ v 2 = n ∧ v 19 = tx ∧ GR tx vb v gb g ∧ VR g tx
def QER (x r m : Nat) (T : Int → Int) (n tx : Int) (hcb : AH) (cb : Int) (hmb : AH) (vb : Nat → Int) (gb : Nat → Int → Int) (se : Int64) (gl : Nat → Int → Int64) (hm : AH) : Prop := ∃ hc v g nl it a b k0 k1 sz cd nc, PLo x hcb cb = some (I 0, hc) ∧ KZ hc x r T n k0 k1 sz cd ∧ Fc x r hcb hc ∧ RF hm m v se g gl T ∧ Fr m (m + 24) hmb hm ∧ v 2 = n ∧ v 17 = 0 ∧ v 19 = tx ∧ GR tx vb v gb g ∧ VR g tx ∧ RXT tx nl it a b k0 k1 sz cd g nc
section
variable {x r m : Nat} {T : Int → Int} {n tx : Int} {hcb : AH} {cb : Int} {hmb : AH} {vb : Nat → Int} {gb : Nat → Int → Int} {se : Int64} {gl : Nat → Int → Int64} {hc hm : AH} {c s it nl : Int} {v : Nat → Int} {g : Nat → Int → Int}
theorem RB.sr (Y : RB x r m T n tx hcb cb hmb vb gb se gl hc hm c s it nl v g) : 0 ≤ s ∧ s ≤ n ∧ (∀ i, 0 ≤ i → i < n → 0 ≤ T i ∧ T i ≤ 255) ∧ bl T (v 2) (v 16) = s ∧ bl T n s = s := by
  obtain ⟨-, ⟨R, -, e2, es, -⟩, -, -, n4, -⟩ := Y
  have a0 := R.2.2.1
  have a1 := R.2.2.2.1
  have br := bl_rng (T := T) (n := n) (i := v 16) (by omega)
  have bb := bl_bl (T := T) (n := n) (i := v 16) a0 (by omega) n4
  rw [es] at br bb
  exact ⟨by omega, br.2, fun i i0 i1 => R.b i i0 (by omega), by rw [e2]; exact es, bb⟩
/-- the reference alone goes on -/
theorem RB.ref (Y : RB x r m T n tx hcb cb hmb vb gb se gl hc hm c s it nl v g) {hm' : AH} {v' : Nat → Int} (R' : RF hm' m v' se g gl T) (F' : Fr m (m + 24) hm hm') (vk : ∀ k, k ≠ 16 → k ≠ 18 → v' k = v k) (e16 : bl T n (v' 16) = s) : RB x r m T n tx hcb cb hmb vb gb se gl hc hm' c s it nl v' g := by
  obtain ⟨CC, ⟨R, FM, e2, es, w0, e19, e20, e22, G⟩, tt⟩ := Y
  exact ⟨CC, ⟨R', FM.trans F', by rw [vk 2 (by omega) (by omega)]; exact e2, e16, by rw [vk 17 (by omega) (by omega)]; exact w0, by rw [vk 19 (by omega) (by omega)]; exact e19, by rw [vk 20 (by omega) (by omega)]; exact e20, by rw [vk 22 (by omega) (by omega)]; exact e22, G.v fun k a b c d e f i => vk k a c⟩, tt⟩
theorem RB.see (Y : RB x r m T n tx hcb cb hmb vb gb se gl hc hm c s it nl v g) : ∃ hm', f9_see hm m = some (I (byt T n s), hm') ∧ RB x r m T n tx hcb cb hmb vb gb se gl hc hm' c s it nl (us v 16 s) g := by
  have sr := Y.sr
  obtain ⟨m1, f1, R1, G1⟩ := Y.2.1.1.see sr.2.2.2.1
  rw [Y.2.1.2.2.1] at f1
  exact ⟨m1, f1, Y.ref R1 G1 (fun k a _ => us_ne a) (by rw [us_eq]; exact sr.2.2.2.2)⟩
theorem RB.isW (Y : RB x r m T n tx hcb cb hmb vb gb se gl hc hm c s it nl v g) {W k : Int} (hW : ∀ P : Int, (P = W) = (wkn P = k)) (W0 : 0 < W) (W1 : W < 9223372036854775808) (k1 : k ≤ 20) : ∃ hm', f9_isWord hm m (J W) = some (decide (kd T n s = k), hm') ∧ RB x r m T n tx hcb cb hmb vb gb se gl hc hm' c s it nl (us v 16 s) g := by
  have sr := Y.sr
  obtain ⟨m1, f1, R1, G1⟩ := Y.2.1.1.isW sr.2.2.2.1 hW W0 W1 k1
  rw [Y.2.1.2.2.1] at f1
  exact ⟨m1, f1, Y.ref R1 G1 (fun k a _ => us_ne a) (by rw [us_eq]; exact sr.2.2.2.2)⟩
/-- a FAULT on both sides -/
theorem RB.fail (Y : RB x r m T n tx hcb cb hmb vb gb se gl hc hm c s it nl v g) {h1 : AH} {due kk : Int} (F1 : Fc x r hc h1) (e : PLo x hc c = (disp due x h1).bind fun h2 => PLo x h2 (c + 1)) (k0' : 0 ≤ kk) (k1' : kk ≤ 7) (O : FO x r T n c s h1 (disp due x h1) kk) {hm' : AH} {v' : Nat → Int} (R' : RF hm' m v' se g gl T) (F' : Fr m (m + 24) hm hm') (w : v' 17 = 1 + 8 * s + kk) (vk : ∀ k, k ≠ 16 → k ≠ 17 → k ≠ 18 → k ≠ 22 → v' k = v k) : QFR x r m T n tx hcb cb hmb vb gb se gl hm' := by
  have sr := Y.sr
  obtain ⟨⟨FC, PE⟩, ⟨R, FM, e2, es, w0, e19, e20, e22, G⟩, ⟨t0, t1, n4, V⟩⟩ := Y
  obtain ⟨h2, a1, a2, a3, a4⟩ := O
  exact ⟨h2, v', g, by rw [PE, e, a1, Option.bind_some, a2, w], by omega, by omega, a3, (FC.trans F1).trans a4, R', FM.trans F', by rw [vk 2 (by omega) (by omega) (by omega) (by omega)]; exact e2, by rw [vk 19 (by omega) (by omega) (by omega) (by omega)]; exact e19, G.v fun k a b c d e f i => vk k a b c f, V⟩
/-- behind a good CLAUSE -/
theorem Q1R.see {d : Int} (Q : Q1R x r m T n tx hcb cb hmb vb gb se gl d hm) : 0 ≤ d ∧ ((∃ hm1 hm2 p d', f9_see hm m = some (I 59, hm1) ∧ fI 9 16 hm1 m = some (I p) ∧ fS 9 16 hm1 m (.int (I (p + 1))) = some hm2 ∧ d' < d ∧ 0 ≤ d' ∧ Q0R x r m T n tx hcb cb hmb vb gb se gl d' hm2) ∨ (∃ hm1 hm2, f9_see hm m = some (I (-1), hm1) ∧ f9_see hm1 m = some (I (-1), hm2) ∧ QER x r m T n tx hcb cb hmb vb gb se gl hm2) ∨ (∃ cc hm1 hm2 hm3 p, f9_see hm m = some (I cc, hm1) ∧ I cc ≠ I 59 ∧ I cc ≠ I (-1) ∧ f9_see hm1 m = some (I cc, hm2) ∧ fI 9 16 hm2 m = some (I p) ∧ f9_fails hm2 m (I 0) (I p) = some (false, hm3) ∧ QFR x r m T n tx hcb cb hmb vb gb se gl hm3)) := by
  obtain ⟨hc, c, s, h1, due, cl, nl, it, a, b, k0, k1, sz, cd, v, g, nc, Y, X, hd, F1, e1, O0, O32, O33⟩ := Q
  have sr := Y.sr
  have n4 := Y.2.2.2.2.1
  have B := sr.2.2.1
  have br := byt_rng (n := n) B sr.1
  have k32 := kd_one (T := T) (n := n) (s := s) (c := 59) (k := 32) rfl (.inr (by omega))
  have k33 := kd_one (T := T) (n := n) (s := s) (c := -1) (k := 33) rfl (.inr (by omega))
  obtain ⟨m1, f1, Y1⟩ := Y.see
  obtain ⟨m2, f2, Y2⟩ := Y1.see
  refine ⟨by omega, ?_⟩
  by_cases z : byt T n s = 59
  · have k := k32.mp z
    have sn : s < n := by have := byt_end (n := n) (s := s) B sr.1; omega
    have nx1 := nx_one (T := T) (n := n) (s := s) k (.inr (by omega))
    have b1 := bl_rng (T := T) (n := n) (i := s + 1) (by omega)
    obtain ⟨m3, f3, R3, G3⟩ := Y1.2.1.1.to (s + 1) (by omega) (by rw [Y1.2.1.2.2.1]; omega)
    obtain ⟨h2, a1, a2, a3⟩ := O32 k
    rw [nx1] at a2
    rw [z] at f1
    refine .inl ⟨m1, m3, s, n - bl T n (s + 1), f1, by rw [Y1.2.1.1.1.f16, us_eq], f3, by omega, by omega, h2, c + 1, bl T n (s + 1), cl, nl, it, a, b, k0, k1, sz, cd, us (us v 16 s) 16 (s + 1), g, nc, ?_, a2, X, rfl⟩
    obtain ⟨⟨FC, PE⟩, ⟨R, FM, e2, es, w0, e19, e20, e22, G⟩, tt⟩ := Y1
    exact ⟨⟨(FC.trans F1).trans a3, by rw [PE, e1, a1, Option.bind_some]⟩, ⟨R3, FM.trans G3, by rw [us_ne (by omega)]; exact e2, by rw [us_eq], by rw [us_ne (by omega)]; exact w0, by rw [us_ne (by omega)]; exact e19, by rw [us_ne (by omega)]; exact e20, by rw [us_ne (by omega)]; exact e22, G.v fun k a b c d e f i => us_ne a⟩, tt⟩
  · by_cases y : byt T n s = -1
    · obtain ⟨h2, a1, a2, a3, a4⟩ := O33 (k33.mp y)
      rw [y] at f1 f2
      refine .inr (.inl ⟨m1, m2, f1, f2, ?_⟩)
      obtain ⟨⟨FC, PE⟩, ⟨R, FM, e2, es, w0, e19, e20, e22, G⟩, tt⟩ := Y2
      exact ⟨h2, us (us v 16 s) 16 s, g, nl, it, a, b, k0, k1, sz, cd, nc, by rw [PE, e1, a1, Option.bind_some, a2], a3, (FC.trans F1).trans a4, R, FM, e2, w0, e19, G, tt.2.2.2, X⟩
    · obtain ⟨m3, f3, R3, G3⟩ := Y2.2.1.1.fails (k := 0) (i := s) Y2.2.1.2.2.2.2.1
      refine .inr (.inr ⟨byt T n s, m1, m2, m3, s, f1, ?_, ?_, f2, by rw [Y2.2.1.1.1.f16, us_eq], f3, ?_⟩)
      · rw [Ne, I_eq (by omega) (by omega) (by omega) (by omega)]; exact z
      · rw [Ne, I_eq (by omega) (by omega) (by omega) (by omega)]; exact y
      · exact Y2.fail F1 e1 (by omega) (by omega) (O0 (fun q => z (k32.mpr q)) (fun q => y (k33.mpr q))) R3 G3 us_eq (fun k a b c d => us_ne b)
end
