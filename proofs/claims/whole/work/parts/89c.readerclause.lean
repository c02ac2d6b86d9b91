/-! takes, coins; a CLAUSE of a READER, whole -/
theorem nx_dig {T : Int → Int} {n q : Int} (h : isd T n q) : nx T n q = dend T n q := by unfold nx; rw [if_pos h]
section
variable {x r m : Nat} {T : Int → Int} {n tx : Int} {hcb : AH} {cb : Int} {hmb : AH} {vb : Nat → Int} {gb : Nat → Int → Int} {se : Int64} {gl : Nat → Int → Int64} {hc hm : AH} {c s it nl cl : Int} {v : Nat → Int} {g : Nat → Int → Int} {a b : Bool} {k0 k1 sz nc : Int} {cd : Int → Int}
theorem RF.sets (R : RF hm m v se g gl T) (e2 : v 2 = n) (e19 : v 19 = tx) (e16 : v 16 = s) (w0 : v 17 = 0) (kw : kd T n s ≤ 20) {ra : Nat} (hr : ∀ {h : AH} {v : Nat → Int}, MO h m v se g gl → aI 0 h (m + ra) (I tx) = some (I (g ra tx))) (hw : ∀ {h : AH} {v : Nat → Int}, MO h m v se g gl → ∀ x : Int, ∃ h', sI 0 h (m + ra) (I tx) (I x) = some h' ∧ MO h' m v se (uf g ra (up (g ra) tx x)) gl ∧ Fr m (m + 24) h h') (r2 : ra ≠ 2) (q0 : -1 ≤ g ra tx) (q1 : g ra tx ≤ 1000) {lo hi at_ : Int} (lo0 : 0 ≤ lo) (lo1 : lo < 1000000) (hi0 : 0 ≤ hi) (hi1 : hi < 1000000) {s1 : Int} (es1 : bl T n (nx T n s) = s1) : (0 ≤ g ra tx → ∃ hm', f9_sets hm m (m + ra) (I lo) (I hi) (I at_) = some (false, hm') ∧ RF hm' m (us v 17 (1 + 8 * at_ + 4)) se g gl T ∧ Fr m (m + 24) hm hm') ∧ (g ra tx < 0 → (¬ isd T n s1 ∧ ∃ hm' v', f9_sets hm m (m + ra) (I lo) (I hi) (I at_) = some (false, hm') ∧ RF hm' m v' se g gl T ∧ v' 17 = 1 + 8 * s1 + 0 ∧ (∀ k, k ≠ 16 → k ≠ 17 → k ≠ 18 → v' k = v k) ∧ Fr m (m + 24) hm hm') ∨ ((isd T n s1 ∧ dend T n s1 - s1 ≤ 5 ∧ lo ≤ nvf T s1 (dend T n s1 - s1).toNat ∧ nvf T s1 (dend T n s1 - s1).toNat ≤ hi) ∧ ∃ hm' v', f9_sets hm m (m + ra) (I lo) (I hi) (I at_) = some (true, hm') ∧ RF hm' m v' se (uf g ra (up (g ra) tx (nvf T s1 (dend T n s1 - s1).toNat))) gl T ∧ v' 16 = dend T n s1 ∧ (∀ k, k ≠ 16 → k ≠ 18 → v' k = v k) ∧ Fr m (m + 24) hm hm') ∨ (isd T n s1 ∧ ¬ (dend T n s1 - s1 ≤ 5 ∧ lo ≤ nvf T s1 (dend T n s1 - s1).toNat ∧ nvf T s1 (dend T n s1 - s1).toNat ≤ hi) ∧ ∃ hm' v', f9_sets hm m (m + ra) (I lo) (I hi) (I at_) = some (false, hm') ∧ RF hm' m v' se g gl T ∧ v' 17 = 1 + 8 * s1 + 1 ∧ (∀ k, k ≠ 16 → k ≠ 17 → k ≠ 18 → v' k = v k) ∧ Fr m (m + 24) hm hm')) := by
  have l0 : (I (g ra tx) < I 0) = (g ra tx < 0) := I_lt (by omega) (by omega) (by omega) (by omega)
  have nw := kd_word (T := T) (n := n) (s := s) kw
  rw [f9_sets, R.1.o, Option.bind_some, R.1.f19, Option.bind_some, e19, hr R.1, Option.bind_some]
  simp only [I_lit]
  refine ⟨fun z => ?_, fun z => ?_⟩
  · obtain ⟨m1, f1, R1, G1⟩ := R.fails w0 (k := 4) (i := at_)
    rw [if_neg (by rw [l0]; omega), f1, Option.bind_some]
    exact ⟨m1, rfl, R1, G1⟩
  · obtain ⟨m1, f1, R1, G1⟩ := R.pass (s := s) e16
    rw [e2, ← nw.2] at R1
    have y2 : us v 16 (nx T n s) 2 = n := by rw [us_ne (by omega)]; exact e2
    rw [if_pos (by rw [l0]; exact z), f1, Option.bind_some]
    rcases R1.number (s := s1) (by rw [y2, us_eq]; exact es1) (by rw [us_ne (by omega)]; exact w0) lo0 lo1 hi0 hi1 with ⟨p, m2, f2, R2, G2⟩ | ⟨p, p1, p2, p3, m2, f2, R2, G2⟩ | ⟨p, p1, m2, f2, R2, G2⟩
    · rw [y2] at p
      rw [f2, Option.bind_some, if_neg (by simp)]
      exact .inl ⟨p, m2, _, rfl, R2, us_eq, fun k a b c => by rw [us_ne b, us_ne a, us_ne a], G1.trans G2⟩
    · rw [y2] at p p1 p2 p3 R2
      obtain ⟨m3, f3, M3, G3⟩ := hw R2.1 (nvf T s1 (dend T n s1 - s1).toNat)
      have R3 := R2.setg M3 r2
      have y19 : us (us (us v 16 (nx T n s)) 16 (dend T n s1)) 18 (nvf T s1 (dend T n s1 - s1).toNat) 19 = tx := by rw [us_ne (by omega), us_ne (by omega), us_ne (by omega)]; exact e19
      rw [f2, Option.bind_some, if_pos rfl, R2.1.f19, Option.bind_some, R2.1.f18, Option.bind_some, y19, us_eq, f3, Option.bind_some]
      exact .inr (.inl ⟨⟨p, p1, p2, p3⟩, m3, _, rfl, R3, by rw [us_ne (by omega), us_eq], fun k a b => by rw [us_ne b, us_ne a, us_ne a], (G1.trans G2).trans G3⟩)
    · rw [y2] at p p1 R2
      rw [f2, Option.bind_some, if_neg (by simp)]
      exact .inr (.inr ⟨p, p1, m2, _, rfl, R2, us_eq, fun k a b c => by rw [us_ne b, us_ne c, us_ne a, us_ne a], G1.trans G2⟩)
/-- takes (row 7), coins (row 8) -/
theorem RB.setR (Y : RB x r m T n tx hcb cb hmb vb gb se gl hc hm c s it nl v g) (X : RXT tx nl it a b k0 k1 sz cd g nc) (kk : kd T n s = cl) (n12 : nl < 12) {ra : Nat} (hcl : (cl = 11 ∧ ra = 7) ∨ (cl = 12 ∧ ra = 8)) (ab : (cl = 11 → a = false) ∧ (cl = 12 → b = false)) {h1 h2 : AH} (F1 : Fc x r hc h1) (e1 : PLo x hc c = (disp 0 x h1).bind (fun h2 => PLo x h2 (c + 1))) (e2 : disp 0 x h1 = some h2) (K2 : KA0 h2 x r T n (c + 1) (bl T n (nx T n s)) 1 cl (nl + 1) (if cl = 11 then ro true b else ro a true) it k0 k1 sz cd) (F2 : Fc x r h1 h2) {hm2 : AH} {v2 : Nat → Int} (R2 : RF hm2 m v2 se g gl T) (G2 : Fr m (m + 24) hm hm2) (e16 : v2 16 = s) (e22' : v2 22 = nl + 1) (vk : ∀ k, k ≠ 16 → k ≠ 22 → v2 k = v k) (hr : ∀ {h : AH} {v : Nat → Int}, MO h m v se g gl → aI 0 h (m + ra) (I tx) = some (I (g ra tx))) (hw : ∀ {h : AH} {v : Nat → Int}, MO h m v se g gl → ∀ x : Int, ∃ h', sI 0 h (m + ra) (I tx) (I x) = some h' ∧ MO h' m v se (uf g ra (up (g ra) tx x)) gl ∧ Fr m (m + 24) h h') : (∃ hm', f9_sets hm2 m (m + ra) (I 1) (I (if cl = 11 then 99 else 999)) (I s) = some (false, hm') ∧ QFR x r m T n tx hcb cb hmb vb gb se gl hm') ∨ (∃ hm', f9_sets hm2 m (m + ra) (I 1) (I (if cl = 11 then 99 else 999)) (I s) = some (true, hm') ∧ Q1R x r m T n tx hcb cb hmb vb gb se gl (n - s) hm') := by
  have sr := Y.sr
  obtain ⟨⟨FC, PE⟩, ⟨R, FM, ev2, es, w0, e19, e20, e22, G⟩, ⟨t0, t14, n4, V⟩⟩ := Y
  have B := sr.2.2.1
  have nr := nx_rng B sr.1 sr.2.1 n4
  have n2 := nr.2.2 (by omega)
  have b1 := bl_rng (T := T) nr.2.1
  have hi99 : (0 : Int) ≤ (if cl = 11 then 99 else 999) ∧ (if cl = 11 then (99 : Int) else 999) < 1000000 := by split <;> omega
  have gneg : g ra tx < 0 := by
    rcases hcl with ⟨q, q'⟩ | ⟨q, q'⟩ <;> subst q'
    · rw [(X.2.2.2.2.1 (ab.1 q)).1]; omega
    · rw [(X.2.2.2.2.2.2 (ab.2 q)).1]; omega
  have Vr := V ra (by omega) (by omega)
  have w2 : v2 2 = n := by rw [vk 2 (by omega) (by omega)]; exact ev2
  have GR2 : GR tx vb v2 gb g := G.v fun k a b c d e f i => vk k a f
  obtain ⟨h3, F3, e3, O0, O1, OK⟩ := K2.setting n4 B (by omega)
  have PE3 : PLo x hcb cb = (disp 1 x h3).bind fun h4 => PLo x h4 (c + 1 + 1) := by rw [PE, e1, e2, Option.bind_some, e3]
  have FC3 := ((FC.trans F1).trans F2).trans F3
  have bad : ∀ {kk' : Int}, 0 ≤ kk' → kk' ≤ 7 → FO x r T n (c + 1) (bl T n (nx T n s)) h3 (disp 1 x h3) kk' → ∀ {hm' : AH} {v' : Nat → Int}, RF hm' m v' se g gl T → v' 17 = 1 + 8 * bl T n (nx T n s) + kk' → (∀ k, k ≠ 16 → k ≠ 17 → k ≠ 18 → v' k = v2 k) → Fr m (m + 24) hm2 hm' → QFR x r m T n tx hcb cb hmb vb gb se gl hm' := fun {kk'} q0 q1 O {hm' v'} R' w' vk' F' => by
    obtain ⟨h4, a1, a2, a3, a4⟩ := O
    exact ⟨h4, v', g, by rw [PE3, a1, Option.bind_some, a2, w'], by omega, by omega, a3, FC3.trans a4, R', (FM.trans G2).trans F', by rw [vk' 2 (by omega) (by omega) (by omega)]; exact w2, by rw [vk' 19 (by omega) (by omega) (by omega), vk 19 (by omega) (by omega)]; exact e19, GR2.v fun k a b c d e f i => vk' k a b c, V⟩
  rcases (R2.sets (n := n) (tx := tx) (s := s) (ra := ra) (lo := 1) (hi := if cl = 11 then 99 else 999) (at_ := s) w2 (by rw [vk 19 (by omega) (by omega)]; exact e19) e16 (by rw [vk 17 (by omega) (by omega)]; exact w0) (by omega) hr hw (by omega) Vr.1 Vr.2 (by omega) (by omega) hi99.1 hi99.2 rfl).2 gneg with ⟨p, m3, v3, f3, R3, x17, vk3, G3⟩ | ⟨p, m3, v3, f3, R3, x16, vk3, G3⟩ | ⟨p, p1, m3, v3, f3, R3, x17, vk3, G3⟩
  · exact .inl ⟨m3, f3, bad (by omega) (by omega) (O0 p) R3 x17 vk3 G3⟩
  · refine .inr ⟨m3, f3, ?_⟩
    obtain ⟨h4, a1, K4, F4⟩ := OK p.1 p.2
    obtain ⟨h5, F5, e5, P0, P32, P33⟩ := K4.behind n4 B (by omega)
    generalize ez : nvf T (bl T n (nx T n s)) (dend T n (bl T n (nx T n s)) - bl T n (nx T n s)).toNat = z at *
    have nxd := nx_dig p.1
    have nr2 := nx_rng B (s := bl T n (nx T n s)) (by omega) b1.2 n4
    have b2 := bl_rng (T := T) nr2.2.1
    have rne : ∀ j, j ≠ ra → uf g ra (up (g ra) tx z) j = g j := fun j hj => uf_ne hj
    have GR3 := (GR2.v (v' := v3) fun k a b c d e f i => vk3 k a c).row (y := z) (k := ra) (by omega) (by omega) (by omega) (by omega)
    have ra7 : ra = 7 ∨ ra = 8 := by omega
    refine ⟨h4, c + 1 + 1, _, h5, 2, cl, nl + 1, it, (if cl = 11 then true else a), (if cl = 11 then b else true), (if cl = 11 then z else k0), (if cl = 11 then k1 else z), sz, cd, v3, uf g ra (up (g ra) tx z), nc, ⟨⟨FC3.trans F4, by rw [PE3, a1, Option.bind_some]⟩, ⟨R3, (FM.trans G2).trans G3, by rw [vk3 2 (by omega) (by omega)]; exact w2, by rw [x16, nxd], by rw [vk3 17 (by omega) (by omega), vk 17 (by omega) (by omega)]; exact w0, by rw [vk3 19 (by omega) (by omega), vk 19 (by omega) (by omega)]; exact e19, by rw [vk3 20 (by omega) (by omega), vk 20 (by omega) (by omega)]; exact e20, by rw [vk3 22 (by omega) (by omega)]; exact e22', GR3⟩, ⟨t0, t14, n4, fun j j0 j1 => ?_⟩⟩, ⟨?_, ?_, X.2.2.1, ?_⟩, by omega, F5, e5, P0, fun q => ?_, P33⟩
    · by_cases y : j = ra
      · subst y; rw [uf_eq, up_eq]
        have := p.2.2
        have : z ≤ 999 := by split at this <;> omega
        omega
      · rw [rne j y]; exact V j j0 j1
    · have s1 : sgt (uf g ra (up (g ra) tx z)) tx = sgt g tx := by funext j; unfold sgt; rw [rne 3 (by omega)]
      have s2 : clt (uf g ra (up (g ra) tx z)) tx = clt g tx := by funext j; unfold clt; rw [rne 5 (by omega)]
      rw [s1, s2]; exact X.1
    · have s1 : sgt (uf g ra (up (g ra) tx z)) tx = sgt g tx := by funext j; unfold sgt; rw [rne 3 (by omega)]
      have s2 : clt (uf g ra (up (g ra) tx z)) tx = clt g tx := by funext j; unfold clt; rw [rne 5 (by omega)]
      rw [s1, s2, rne 6 (by omega), rne 4 (by omega)]
      obtain ⟨y6, y4, yc, yi, yj, yk, yl, yn⟩ := X.2.1
      exact ⟨y6, y4, yc, yi, yj, by omega, by omega, by omega⟩
    · obtain ⟨A1, A2, B1, B2⟩ := X.2.2.2
      rcases hcl with ⟨q, q'⟩ | ⟨q, q'⟩
      · subst q'
        have p2 := p.2.2
        rw [if_pos q] at p2
        rw [if_pos q, if_pos q, if_pos q, if_pos q, uf_eq, up_eq, uf_ne (by omega)]
        exact ⟨fun _ => ⟨rfl, p2⟩, fun w => (by cases w), B1, B2⟩
      · subst q'
        have q11 : cl ≠ 11 := by omega
        have p2 := p.2.2
        rw [if_neg q11] at p2
        rw [if_neg q11, if_neg q11, if_neg q11, if_neg q11, uf_eq, up_eq, uf_ne (by omega)]
        exact ⟨A1, A2, fun _ => ⟨rfl, p2⟩, fun w => by cases w⟩
    · obtain ⟨h6, z1, z2, z3⟩ := P32 q
      refine ⟨h6, z1, ?_, z3⟩
      rcases hcl with ⟨y, -⟩ | ⟨y, -⟩
      · simp only [if_pos y] at z2 ⊢; exact z2
      · have y11 : cl ≠ 11 := by omega
        simp only [if_neg y11] at z2 ⊢; exact z2
  · exact .inl ⟨m3, f3, bad (by omega) (by omega) (O1 p p1) R3 x17 vk3 G3⟩
set_option maxHeartbeats 4000000 in
theorem Q0R.clause {d : Int} (Q : Q0R x r m T n tx hcb cb hmb vb gb se gl d hm) (t8 : tx < 8) : (∃ hm', f9_clauseHere hm m = some (false, hm') ∧ QFR x r m T n tx hcb cb hmb vb gb se gl hm') ∨ (∃ hm', f9_clauseHere hm m = some (true, hm') ∧ Q1R x r m T n tx hcb cb hmb vb gb se gl d hm') := by
  obtain ⟨hc, c, s, cl, nl, it, a, b, k0, k1, sz, cd, v, g, nc, Y, K, X, ed⟩ := Q
  subst ed
  have sr := Y.sr
  have n4 := Y.2.2.2.2.1
  have t0 := Y.2.2.1
  have B := sr.2.2.1
  have xi := X.2.1
  have ev22 := Y.2.1.2.2.2.2.2.2.2.1
  have ev17 := Y.2.1.2.2.2.2.1
  have ev19 := Y.2.1.2.2.2.2.2.1
  have ev2 := Y.2.1.2.2.1
  obtain ⟨h1, F1, e1, O0, O4, OY, OT, OC⟩ := K.first n4 B (by omega) (by omega)
  obtain ⟨m1, f1, Y1⟩ := Y.see
  obtain ⟨m2, f2, Y2⟩ := Y1.isW wkn_yes (by omega) (by omega) (by omega)
  obtain ⟨m3, f3, Y3⟩ := Y2.isW wkn_takes (by omega) (by omega) (by omega)
  obtain ⟨m4, f4, Y4⟩ := Y3.isW wkn_coins (by omega) (by omega) (by omega)
  have l8 : (I 8 ≤ I tx) = (8 ≤ tx) := I_le (by omega) (by omega) (by omega) (by omega)
  -- the words are gone over; what comes then
  have c112 : ∀ {mm : AH} {vv : Nat → Int}, RB x r m T n tx hcb cb hmb vb gb se gl hc mm c s it nl (us vv 16 s) g → (kd T n s = 10 ∨ kd T n s = 11 ∨ kd T n s = 12) → (∃ hm', f9_clauseHere_112 mm m (I s) true = some (false, hm') ∧ QFR x r m T n tx hcb cb hmb vb gb se gl hm') ∨ (∃ hm', f9_clauseHere_112 mm m (I s) true = some (true, hm') ∧ Q1R x r m T n tx hcb cb hmb vb gb se gl (n - s) hm') := fun {mm vv} Z kk => by
    have z22 := Z.2.1.2.2.2.2.2.2.2.1
    have l12 : (I nl = I 12) = (nl = 12) := I_eq (by omega) (by omega) (by omega) (by omega)
    rw [f9_clauseHere_112]
    simp only [I_lit, J_lit, if_true]
    rw [Z.2.1.1.1.f22, Option.bind_some, z22]
    by_cases z : nl = 12
    · obtain ⟨m5, f5, R5, G5⟩ := Z.2.1.1.fails (k := 4) (i := s) Z.2.1.2.2.2.2.1
      rw [if_pos (by rw [l12]; exact z), f5, Option.bind_some]
      exact .inl ⟨m5, rfl, Z.fail F1 e1 (by omega) (by omega) (O4 kk (.inl z)) R5 G5 us_eq (fun k a b c d => us_ne b)⟩
    · obtain ⟨m5, f5, M5, G5⟩ := Z.2.1.1.1.s22 (nl + 1)
      have R5 := Z.2.1.1.set M5 (by omega) (by omega)
      have y2 : us (us vv 16 s) 22 (nl + 1) 2 = n := by rw [us_ne (by omega)]; exact Z.2.1.2.2.1
      have y16 : us (us vv 16 s) 22 (nl + 1) 16 = s := by rw [us_ne (by omega), us_eq]
      -- a word asked for once more
      have again : ∀ {m6 : AH}, RF m6 m (us (us vv 16 s) 22 (nl + 1)) se g gl T → ∀ {W k : Int}, (∀ P : Int, (P = W) = (wkn P = k)) → 0 < W → W < 9223372036854775808 → k ≤ 20 → ∃ m7, f9_isWord m6 m (CSafeVolumesLaw_law_r1647_6df7c3.J W) = some (decide (kd T n s = k), m7) ∧ RF m7 m (us (us vv 16 s) 22 (nl + 1)) se g gl T ∧ Fr m (m + 24) m6 m7 := fun {m6} R6 {W k} p q o u => by
        obtain ⟨m7, f7, R7, G7⟩ := R6.isW (s := s) (by rw [y2, y16]; exact sr.2.2.2.2) p q o u
        rw [y2] at f7
        have same : us (us (us vv 16 s) 22 (nl + 1)) 16 s = us (us vv 16 s) 22 (nl + 1) := by
          funext k
          by_cases k16 : k = 16
          · subst k16; rw [us_eq, y16]
          · rw [us_ne k16]
        rw [same] at R7
        exact ⟨m7, f7, R7, G7⟩
      obtain ⟨m6, f6, R6, G6⟩ := again R5 wkn_yes (by omega) (by omega) (by omega)
      obtain ⟨m7, f7, R7, G7⟩ := again R6 wkn_takes (by omega) (by omega) (by omega)
      obtain ⟨m8, f8, R8, G8⟩ := again R7 wkn_coins (by omega) (by omega) (by omega)
      have vk5 : ∀ k, k ≠ 16 → k ≠ 22 → us (us vv 16 s) 22 (nl + 1) k = us vv 16 s k := fun k _ b => us_ne b
      rw [if_neg (by rw [l12]; exact z), Option.bind_some, I_add, f5, Option.bind_some, f6, Option.bind_some]
      by_cases k10 : kd T n s = 10
      · obtain ⟨h2, a1, a2, a3⟩ := OY k10 (by omega)
        rw [if_pos (decide_eq_true k10)]
        rcases Z.yes X k10 (by omega) F1 e1 a1 a2 a3 R6 (G5.trans G6) y16 us_eq vk5 with ⟨m9, f9, L⟩ | ⟨m9, f9, L⟩
        · rw [f9, Option.bind_some]; exact .inl ⟨m9, rfl, L⟩
        · rw [f9, Option.bind_some]; exact .inr ⟨m9, rfl, L⟩
      rw [if_neg (by rw [decide_eq_true_eq]; exact k10), f7, Option.bind_some]
      by_cases k11 : kd T n s = 11
      · rw [if_pos (decide_eq_true k11), R7.1.f7, Option.bind_some]
        cases ea : a with
        | true =>
          have g7 := (X.2.2.2.1 ea)
          have ST := (R7.sets (n := n) (tx := tx) (s := s) (ra := 7) (lo := 1) (hi := 99) (at_ := s) y2 (by rw [us_ne (by omega)]; exact Z.2.1.2.2.2.2.2.1) y16 (by rw [us_ne (by omega)]; exact Z.2.1.2.2.2.2.1) (by omega) (fun M => M.r7 t0 (by omega)) (fun M x => M.w7 x t0 (by omega)) (by omega) (by omega) (by omega) (by omega) (by omega) (by omega) (by omega) rfl).1
          obtain ⟨m9, f9, R9, G9⟩ := ST (by omega)
          rw [f9, Option.bind_some]
          exact .inl ⟨m9, rfl, Z.fail F1 e1 (by omega) (by omega) (O4 kk (.inr (.inl ⟨k11, ea⟩))) R9 (((G5.trans G6).trans G7).trans G9) us_eq (fun k a b c d => by rw [us_ne b, us_ne d])⟩
        | false =>
          obtain ⟨h2, a1, a2, a3⟩ := OT k11 (by omega) ea
          rcases Z.setR X k11 (by omega) (ra := 7) (.inl ⟨rfl, rfl⟩) ⟨fun _ => ea, fun q => by omega⟩ F1 e1 a1 a2 a3 R7 ((G5.trans G6).trans G7) y16 us_eq vk5 (fun M => M.r7 t0 (by omega)) (fun M x => M.w7 x t0 (by omega)) with ⟨m9, f9, L⟩ | ⟨m9, f9, L⟩
          · rw [if_pos rfl] at f9
            rw [f9, Option.bind_some]; exact .inl ⟨m9, rfl, L⟩
          · rw [if_pos rfl] at f9
            rw [f9, Option.bind_some]; exact .inr ⟨m9, rfl, L⟩
      have k12 : kd T n s = 12 := by omega
      rw [if_neg (by rw [decide_eq_true_eq]; exact k11), f8, Option.bind_some, if_pos (decide_eq_true k12), R8.1.f8, Option.bind_some]
      cases eb : b with
      | true =>
        have g8 := (X.2.2.2.2.2.1 eb)
        have ST := (R8.sets (n := n) (tx := tx) (s := s) (ra := 8) (lo := 1) (hi := 999) (at_ := s) y2 (by rw [us_ne (by omega)]; exact Z.2.1.2.2.2.2.2.1) y16 (by rw [us_ne (by omega)]; exact Z.2.1.2.2.2.2.1) (by omega) (fun M => M.r8 t0 (by omega)) (fun M x => M.w8 x t0 (by omega)) (by omega) (by omega) (by omega) (by omega) (by omega) (by omega) (by omega) rfl).1
        obtain ⟨m9, f9, R9, G9⟩ := ST (by omega)
        rw [f9, Option.bind_some]
        exact .inl ⟨m9, rfl, Z.fail F1 e1 (by omega) (by omega) (O4 kk (.inr (.inr ⟨k12, eb⟩))) R9 ((((G5.trans G6).trans G7).trans G8).trans G9) us_eq (fun k a b c d => by rw [us_ne b, us_ne d])⟩
      | false =>
        obtain ⟨h2, a1, a2, a3⟩ := OC k12 (by omega) eb
        rcases Z.setR X k12 (by omega) (ra := 8) (.inr ⟨rfl, rfl⟩) ⟨fun q => by omega, fun _ => eb⟩ F1 e1 a1 a2 a3 R8 (((G5.trans G6).trans G7).trans G8) y16 us_eq vk5 (fun M => M.r8 t0 (by omega)) (fun M x => M.w8 x t0 (by omega)) with ⟨m9, f9, L⟩ | ⟨m9, f9, L⟩
        · rw [if_neg (by decide)] at f9
          rw [f9, Option.bind_some]; exact .inl ⟨m9, rfl, L⟩
        · rw [if_neg (by decide)] at f9
          rw [f9, Option.bind_some]; exact .inr ⟨m9, rfl, L⟩
  rw [f9_clauseHere, Y.2.1.1.1.o, Option.bind_some, f1, Option.bind_some, Y1.2.1.1.1.f16, Option.bind_some, Y1.2.1.1.1.f19, Option.bind_some, us_eq, Y1.2.1.2.2.2.2.2.1]
  simp only [I_lit]
  rw [if_neg (by rw [l8]; omega), f9_clauseHere_24]
  simp only [J_lit, if_true]
  rw [f2, Option.bind_some]
  by_cases k10 : kd T n s = 10
  · rw [if_pos (decide_eq_true k10)]
    exact c112 Y2 (.inl k10)
  rw [if_neg (by rw [decide_eq_true_eq]; exact k10), f3, Option.bind_some]
  by_cases k11 : kd T n s = 11
  · rw [if_pos (decide_eq_true k11)]
    exact c112 Y3 (.inr (.inl k11))
  rw [if_neg (by rw [decide_eq_true_eq]; exact k11), f4, Option.bind_some]
  by_cases k12 : kd T n s = 12
  · rw [if_pos (decide_eq_true k12)]
    exact c112 Y4 (.inr (.inr k12))
  obtain ⟨m5, f5, R5, G5⟩ := Y4.2.1.1.fails (k := 0) (i := s) Y4.2.1.2.2.2.2.1
  rw [if_neg (by rw [decide_eq_true_eq]; exact k12), f9_clauseHere_112]
  simp only [I_lit, Bool.false_eq_true, if_false]
  rw [f5, Option.bind_some]
  exact .inl ⟨m5, rfl, Y4.fail F1 e1 (by omega) (by omega) (O0 (by omega)) R5 G5 us_eq (fun k a b c d => us_ne b)⟩
end
