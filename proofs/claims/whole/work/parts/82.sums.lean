/-! TERMS and SUMS side by side -/
def kov (k : Int) : Int := if k = 33 then -1 else if k = 29 then 42 else if k = 27 then 43 else if k = 28 then 45 else if k = 32 then 59 else if k = 22 then 60 else if k = 24 then 61 else if k = 26 then 62 else if k = 30 then 91 else if k = 31 then 93 else 0
theorem kos_val {c : Int} (h : kos c ≠ 34) : c = kov (kos c) := by
  unfold kos at h ⊢
  by_cases e0 : c = -1
  · rw [if_pos e0]; exact e0
  rw [if_neg e0] at h ⊢
  by_cases e1 : c = 42
  · rw [if_pos e1]; exact e1
  rw [if_neg e1] at h ⊢
  by_cases e2 : c = 43
  · rw [if_pos e2]; exact e2
  rw [if_neg e2] at h ⊢
  by_cases e3 : c = 45
  · rw [if_pos e3]; exact e3
  rw [if_neg e3] at h ⊢
  by_cases e4 : c = 59
  · rw [if_pos e4]; exact e4
  rw [if_neg e4] at h ⊢
  by_cases e5 : c = 60
  · rw [if_pos e5]; exact e5
  rw [if_neg e5] at h ⊢
  by_cases e6 : c = 61
  · rw [if_pos e6]; exact e6
  rw [if_neg e6] at h ⊢
  by_cases e7 : c = 62
  · rw [if_pos e7]; exact e7
  rw [if_neg e7] at h ⊢
  by_cases e8 : c = 91
  · rw [if_pos e8]; exact e8
  rw [if_neg e8] at h ⊢
  by_cases e9 : c = 93
  · rw [if_pos e9]; exact e9
  rw [if_neg e9] at h ⊢
  omega
theorem kos_inj {c c' k : Int} (h : kos c = k) (h' : kos c' = k) (hk : k ≠ 34) : c = c' := by
  rw [kos_val (c := c) (by omega), kos_val (c := c') (by omega), h, h']
theorem kos_nd {c : Int} (h : kos c ≠ 34) : ¬ (48 ≤ c ∧ c ≤ 57) ∧ ¬ (97 ≤ c ∧ c ≤ 122) := by
  unfold kos at h
  repeat' split at h
  all_goals omega
theorem kos_n {c : Int} : kos c ≠ 23 ∧ kos c ≠ 25 := by
  unfold kos
  repeat' split
  all_goals omega
/-- the sign's kind by its byte -/
theorem kd_byt {T : Int → Int} {n s c : Int} (h : byt T n s = c) (cd : ¬ (48 ≤ c ∧ c ≤ 57)) (cl : ¬ (97 ≤ c ∧ c ≤ 122)) : ¬ isd T n s ∧ ¬ isl T n s ∧ kd T n s = two T n s := by
  have a : ¬ isd T n s := fun z => by unfold byt at h; rw [if_pos z.1] at h; exact cd (h ▸ z.2)
  have b : ¬ isl T n s := fun z => by unfold byt at h; rw [if_pos z.1] at h; exact cl (h ▸ z.2)
  refine ⟨a, b, ?_⟩
  unfold kd
  rw [if_neg a, if_neg b]
theorem kd_is {T : Int → Int} {n s k : Int} (h : kd T n s = k) (h1 : 22 ≤ k) (h2 : k ≠ 34) : ¬ isd T n s ∧ ¬ isl T n s ∧ two T n s = k := by
  have a : ¬ isd T n s := fun z => by have := kd_21.mpr z; omega
  have b : ¬ isl T n s := fun z => by
    unfold kd at h
    rw [if_neg a, if_pos z] at h
    have := wkn_rng (P8 T s (lend T n s))
    omega
  unfold kd at h
  rw [if_neg a, if_neg b] at h
  exact ⟨a, b, h⟩
theorem kd_one {T : Int → Int} {n s c k : Int} (hk : kos c = k) (k1 : k = 24 ∨ (27 ≤ k ∧ k ≤ 33)) : byt T n s = c ↔ kd T n s = k := by
  have nd := kos_nd (c := c) (by omega)
  constructor
  · intro h
    have := kd_byt h nd.1 nd.2
    rw [this.2.2]
    unfold two
    rw [h, if_neg (by omega), hk]
  · intro h
    have a := kd_is h (by omega) (by omega)
    have b := a.2.2
    unfold two at b
    split at b
    · split at b <;> omega
    · exact kos_inj b hk (by omega)
theorem nx_one {T : Int → Int} {n s k : Int} (h : kd T n s = k) (k1 : k = 24 ∨ (27 ≤ k ∧ k ≤ 32)) : nx T n s = s + 1 := by
  have a := kd_is h (by omega) (by omega)
  have b := a.2.2
  unfold two at b
  unfold nx
  rw [if_neg a.1, if_neg a.2.1]
  split at b
  · split at b <;> omega
  · next z => rw [if_neg (by omega), if_neg z]
section
variable {x r m : Nat} {T : Int → Int} {n tx b nc : Int} {hc0 : AH} {c0 : Int} {hm0 : AH} {v0 : Nat → Int} {g0 : Nat → Int → Int} {cd0 : Int → Int} {se : Int64} {gl : Nat → Int → Int64} {k0 k1 nl once : Int} {hc hm : AH} {c s due sm cl it : Int} {W : List Int} {k : Nat} {sz : Int} {cd : Int → Int} {v v1 : Nat → Int} {g g1 : Nat → Int → Int} {bb : Int} {Bt : List Bool}
theorem VP.imp {Q Q' : List Int → Prop} {S S' : Int → Prop} {hm' : AH} (V : VP x r m T n tx b nc hc0 c0 hm0 v0 g0 cd0 se gl k0 k1 nl once v1 g1 sm cl W bb Bt Q S hm') (e24 : v1 24 = v 24) (e21 : v1 21 = v 21) (e14 : g1 14 = g 14) (hQ : ∀ P, Q P → Q' P) (hS : ∀ s, S s → S' s) : VP x r m T n tx b nc hc0 c0 hm0 v0 g0 cd0 se gl k0 k1 nl once v g sm cl W bb Bt Q' S' hm' := by
  obtain ⟨hc', c', s', it', P, sz', cd', v', g', J, q, p, a, b, d⟩ := V
  exact ⟨hc', c', s', it', P, sz', cd', v', g', J, hQ _ q, hS _ p, by rw [a, e24], by rw [b, e21], by rw [d, e14]⟩
theorem RES.imp {o : Option (Bool × AH)} {Q Q' : AH → Prop} (R : RES x r m T n tx b nc hc0 c0 hm0 v0 g0 cd0 se gl k0 k1 nl once o Q) (h : ∀ a, Q a → Q' a) : RES x r m T n tx b nc hc0 c0 hm0 v0 g0 cd0 se gl k0 k1 nl once o Q' := by
  rcases R with R | ⟨a, b, d⟩
  · exact .inl R
  · exact .inr ⟨a, b, h _ d⟩
/-- the reference alone goes on; no sign, no token -/
theorem JJ.ref (J : JJ x r m T n tx b nc hc0 c0 hm0 v0 g0 cd0 se gl k0 k1 nl once hc hm c s due sm cl it W k sz cd v g bb Bt) {hm' : AH} {v' : Nat → Int} (R' : RF hm' m v' se g gl T) (F' : Fr m (m + 24) hm hm') (vk : ∀ k, k ≠ 16 → k ≠ 18 → k ≠ 21 → k ≠ 24 → v' k = v k) (e16 : bl T n (v' 16) = s) : JJ x r m T n tx b nc hc0 c0 hm0 v0 g0 cd0 se gl k0 k1 nl once hc hm' c s due sm cl it W k sz cd v' g bb Bt := by
  obtain ⟨KK, ⟨R, FM, e2, es, w0, e19, e20, G⟩, CC, tt⟩ := J
  exact ⟨KK, ⟨R', FM.trans F', by rw [vk 2 (by omega) (by omega) (by omega) (by omega)]; exact e2, e16, by rw [vk 17 (by omega) (by omega) (by omega) (by omega)]; exact w0, by rw [vk 19 (by omega) (by omega) (by omega) (by omega)]; exact e19, by rw [vk 20 (by omega) (by omega) (by omega) (by omega)]; exact e20, G.v fun k a b c d e f => vk k a c e f⟩, CC, tt⟩
theorem JJ.see (J : JJ x r m T n tx b nc hc0 c0 hm0 v0 g0 cd0 se gl k0 k1 nl once hc hm c s due sm cl it W k sz cd v g bb Bt) : ∃ hm', f9_see hm m = some (I (byt T n s), hm') ∧ JJ x r m T n tx b nc hc0 c0 hm0 v0 g0 cd0 se gl k0 k1 nl once hc hm' c s due sm cl it W k sz cd (us v 16 s) g bb Bt := by
  have sr := J.sr
  obtain ⟨m1, f1, R1, G1⟩ := J.2.1.1.see sr.2.2.2.2.2.2.2.2.2.1
  have e2 := J.2.1.2.2.1
  rw [e2] at f1
  refine ⟨m1, f1, J.ref R1 G1 (fun k a _ _ _ => us_ne a) ?_⟩
  have R := J.2.1.1
  rw [us_eq, ← J.2.1.2.2.2.1]
  exact bl_bl R.2.2.1 (by have := R.2.2.2.1; omega) J.2.2.2.2.2.1
/-- a sign more of the reference's, that of the class's that wait -/
theorem JJ.put (J : JJ x r m T n tx b nc hc0 c0 hm0 v0 g0 cd0 se gl k0 k1 nl once hc hm c s due sm cl it W k sz cd v g bb Bt) {a z y : Int} {B' : List Bool} (ay : y = a + 16 * z) (w : W[k]? = some (en y)) (t : tk (en y) Bt = some B') (q : sgk y) (e10 : 10 ≤ en y) : ∃ hm', f9_puts hm m (I a) (I z) = some hm' ∧ JJ x r m T n tx b nc hc0 c0 hm0 v0 g0 cd0 se gl k0 k1 nl once hc hm' c s due sm cl it W (k + 1) sz cd v (gput g tx y) bb B' := by
  have sr := J.sr
  obtain ⟨KK, ⟨R, FM, e2, es, w0, e19, e20, G⟩, ⟨C, S, cdb, bbb⟩, tt⟩ := J
  obtain ⟨m1, f1, R1, G1⟩ := R.puts (a := a) (y := z) (tx := tx) e19 tt.1 tt.2.1 sr.2.2.2.2.1 sr.2.2.2.2.2.2.1
  rw [← ay] at R1
  refine ⟨m1, f1, KK, ⟨R1, FM.trans G1, e2, es, w0, e19, e20, G.put sr.2.2.2.2.2.1 sr.2.2.2.2.2.2.1⟩, ⟨?_, ?_, cdb, bbb⟩, tt⟩
  · rw [sgt_put, gput_len]; exact C.put w
  · rw [sgt_put, gput_len]
    refine S.put t q ?_
    rw [if_neg (by simp; omega)]; omega
/-- + - * on both sides -/
theorem JJ.oper {P : List Int} (J : JJ x r m T n tx b nc hc0 c0 hm0 v0 g0 cd0 se gl k0 k1 nl once hc hm c s 5 sm cl it (P ++ W) P.length sz cd v g bb Bt) (kk : 27 ≤ kd T n s ∧ kd T n s ≤ 29) (hP : ∀ a ∈ P, 0 ≤ a ∧ a ≤ 40 ∧ clos (kd T n s) ≤ clos a) (hW : ∀ e W', W = e :: W' → clos e < clos (kd T n s)) (rW : ∀ e ∈ W, 0 ≤ e ∧ e ≤ 40) {hm' : AH} {v' : Nat → Int} (R' : RF hm' m v' se g gl T) (F' : Fr m (m + 24) hm hm') (vk : ∀ k, k ≠ 16 → v' k = v k) (e16 : v' 16 = s + 1) : ∃ hc', JJ x r m T n tx b nc hc0 c0 hm0 v0 g0 cd0 se gl k0 k1 nl once hc' hm' (c + 1) (bl T n (s + 1)) 3 sm cl it (kd T n s :: W) 0 (sz + P.length) (apd cd sz P) v' g bb Bt := by
  have sr := J.sr
  obtain ⟨⟨K, FC, PE⟩, ⟨R, FM, e2, es, w0, e19, e20, G⟩, ⟨C, S, cdb, bbb⟩, tt⟩ := J
  have B := sr.2.2.2.2.2.2.2.2.1
  obtain ⟨h1, K1, F1, e1⟩ := K.tok tt.2.2.1 B (by omega) (by omega)
  obtain ⟨h2, a1, a2, a3⟩ := K1.oper tt.2.2.1 B kk hP hW rW
  have ed : disp 5 x h1 = f1_takeBehindValue h1 (x + 24) (x + 22) := by simp [disp]
  have nx1 := nx_one (T := T) (n := n) (s := s) rfl (.inr ⟨kk.1, by omega⟩)
  rw [nx1] at a2
  have c3 := C.2.2.1
  exact ⟨h2, ⟨a2, (FC.trans F1).trans a3, by rw [PE, e1, ed, a1, Option.bind_some]⟩, ⟨R', FM.trans F', by rw [vk 2 (by omega)]; exact e2, by rw [e16], by rw [vk 17 (by omega)]; exact w0, by rw [vk 19 (by omega)]; exact e19, by rw [vk 20 (by omega)]; exact e20, G.v fun k a b c d e f => vk k a⟩, ⟨(C.emit rfl).w, S, fun j hj => by rw [apd_lt (by omega)]; exact cdb j hj, bbb⟩, tt⟩
theorem JJ.termLoop (hW : ∀ e W', W = e :: W' → clos e < 6) (rW : ∀ e ∈ W, 0 ≤ e ∧ e ≤ 40) (s0 : Int) : ∀ (f : Nat) (P : List Int) (hc hm : AH) (c s it sz : Int) (cd : Int → Int) (v : Nat → Int) (g : Nat → Int → Int), JJ x r m T n tx b nc hc0 c0 hm0 v0 g0 cd0 se gl k0 k1 nl once hc hm c s 5 sm cl it (P ++ W) P.length sz cd v g bb (false :: Bt) → (P = [] ∨ P = [29]) → s0 < s → n - s < f → RES x r m T n tx b nc hc0 c0 hm0 v0 g0 cd0 se gl k0 k1 nl once (f9_term_9 m f hm) (VP x r m T n tx b nc hc0 c0 hm0 v0 g0 cd0 se gl k0 k1 nl once v g sm cl W bb (false :: Bt) (fun P => P = [] ∨ P = [29]) (fun s' => s0 < s' ∧ kd T n s' ≠ 29))
  | 0, P, hc, hm, c, s, it, sz, cd, v, g, J, hP, hs, hf => by have := J.sr; omega
  | f + 1, P, hc, hm, c, s, it, sz, cd, v, g, J, hP, hs, hf => by
    have sr := J.sr
    obtain ⟨m1, f1, J1⟩ := J.see
    have B := sr.2.2.2.2.2.2.2.2.1
    have br := byt_rng (n := n) B sr.1
    have l42 : (I (byt T n s) = I 42) = (byt T n s = 42) := I_eq (by omega) (by omega) (by omega) (by omega)
    have k29 := kd_one (T := T) (n := n) (s := s) (c := 42) (k := 29) rfl (.inr (by omega))
    rw [f9_term_9, f1, Option.bind_some]
    simp only [I_lit]
    by_cases z : byt T n s = 42
    · have kk := k29.mp z
      have sn : s < n := by
        have := byt_end (n := n) (s := s) B sr.1
        omega
      have R1 := J1.2.1.1
      obtain ⟨m2, f2, R2, G2⟩ := R1.to (s + 1) (by omega) (by rw [J1.2.1.2.2.1]; omega)
      obtain ⟨hc2, J2⟩ := J1.oper (by omega) (fun a ha => by
        rcases hP with q | q
        · subst q; cases ha
        · subst q; rw [List.mem_singleton] at ha; subst ha; rw [kk]; decide) (fun e W' q => by rw [kk]; exact hW e W' q) rW R2 G2 (fun k a => us_ne a) us_eq
      rw [kk] at J2
      rw [if_pos (by rw [l42]; exact z), R1.1.f16, Option.bind_some, us_eq, I_add, f2, Option.bind_some]
      rcases J2.value (.inl ⟨rfl, rfl⟩) with ⟨m3, f3, L⟩ | ⟨m3, f3, V⟩
      · rw [f3, Option.bind_some, if_neg (by simp)]
        exact .inl ⟨m3, rfl, L⟩
      · obtain ⟨hc3, c3, s3, it3, P3, sz3, cd3, v3, g3, J3, q3, p3, x24, x21, x14⟩ := V
        subst q3
        obtain ⟨m4, f4, J4⟩ := J3.put (a := 4) (z := 0) (y := 4) (B' := false :: Bt) rfl (by rfl) (by rfl) ⟨by omega, by omega, by decide, by decide⟩ (by decide)
        have b1 := bl_rng (T := T) (n := n) (i := s + 1) (by omega)
        rw [f3, Option.bind_some, if_pos rfl, f4, Option.bind_some]
        refine (JJ.termLoop hW rW s0 f [29] hc3 m4 c3 s3 it3 sz3 cd3 v3 (gput g3 tx 4) J4 (.inr rfl) (by omega) (by omega)).imp fun a V => V.imp (by rw [x24]; rfl) (by rw [x21]; rfl) (by rw [gput_ne (by omega) (by omega), x14]) (fun _ q => q) (fun _ q => q)
    · rw [if_neg (by rw [l42]; exact z)]
      exact .inr ⟨m1, rfl, hc, c, s, it, P, sz, cd, _, g, J1, hP, ⟨hs, fun q => z (k29.mpr q)⟩, rfl, rfl, rfl⟩
theorem JJ.term (J : JJ x r m T n tx b nc hc0 c0 hm0 v0 g0 cd0 se gl k0 k1 nl once hc hm c s due sm cl it W 0 sz cd v g bb Bt) {sm' : Int} (hd : (due = 3 ∧ sm' = sm) ∨ (due = 4 ∧ sm' = 1 ∧ kd T n s ≠ 20 ∧ kd T n s ≠ 30)) (hW : ∀ e W', W = e :: W' → clos e < 6) (rW : ∀ e ∈ W, 0 ≤ e ∧ e ≤ 40) : RES x r m T n tx b nc hc0 c0 hm0 v0 g0 cd0 se gl k0 k1 nl once (f9_term hm m) (VP x r m T n tx b nc hc0 c0 hm0 v0 g0 cd0 se gl k0 k1 nl once v g sm' cl W bb (false :: Bt) (fun P => P = [] ∨ P = [29]) (fun s' => s < s' ∧ kd T n s' ≠ 29)) := by
  have fu := FU_big
  have sr := J.sr
  have n4 := J.2.2.2.2.2.1
  rw [f9_term, J.2.1.1.1.o, Option.bind_some]
  rcases J.value hd with ⟨m3, f3, L⟩ | ⟨m3, f3, V⟩
  · rw [f3, Option.bind_some, if_neg (by simp)]
    exact .inl ⟨m3, rfl, L⟩
  · obtain ⟨hc3, c3, s3, it3, P3, sz3, cd3, v3, g3, J3, q3, p3, x24, x21, x14⟩ := V
    subst q3
    rw [f3, Option.bind_some, if_pos rfl]
    exact (JJ.termLoop hW rW s FU [] hc3 m3 c3 s3 it3 sz3 cd3 v3 g3 J3 (.inl rfl) p3 (by omega)).imp fun a V => V.imp x24 x21 x14 (fun _ q => q) (fun _ q => q)
/-- one + or - more, and its TERM -/
theorem JJ.more {P : List Int} (J : JJ x r m T n tx b nc hc0 c0 hm0 v0 g0 cd0 se gl k0 k1 nl once hc hm c s 5 sm cl it (P ++ W) P.length sz cd (us v 16 s) g bb (false :: Bt)) (hP : ∀ a ∈ P, 27 ≤ a ∧ a ≤ 29) {y : Int} (kk : kd T n s = en y) (yy : y = 2 ∨ y = 3) (hW : ∀ e W', W = e :: W' → clos e < 5) (rW : ∀ e ∈ W, 0 ≤ e ∧ e ≤ 40) {κ : AH → Option (Bool × AH)} {Q : AH → Prop} (hκ : ∀ m4, VP x r m T n tx b nc hc0 c0 hm0 v0 g0 cd0 se gl k0 k1 nl once v g sm cl W bb (false :: Bt) (fun P => ∀ a ∈ P, 27 ≤ a ∧ a ≤ 29) (fun s' => s < s' ∧ kd T n s' ≠ 29) m4 → RES x r m T n tx b nc hc0 c0 hm0 v0 g0 cd0 se gl k0 k1 nl once (κ m4) Q) : RES x r m T n tx b nc hc0 c0 hm0 v0 g0 cd0 se gl k0 k1 nl once (f9_sum_46 κ hm m (I y)) Q := by
  have sr := J.sr
  have B := sr.2.2.2.2.2.2.2.2.1
  have ey : en y = 27 ∨ en y = 28 := by rcases yy with q | q <;> subst q; exact .inl rfl; exact .inr rfl
  have cl5 : clos (en y) = 5 := by rcases ey with q | q <;> rw [q] <;> rfl
  have sn : s < n := by
    have a := byt_end (n := n) (s := s) B sr.1
    have b1 := kd_one (T := T) (n := n) (s := s) (c := -1) (k := 33) rfl (.inr (by omega))
    omega
  have R1 := J.2.1.1
  obtain ⟨m2, f2, R2, G2⟩ := R1.to (s + 1) (by omega) (by rw [J.2.1.2.2.1]; omega)
  obtain ⟨hc2, J2⟩ := J.oper (by omega) (fun a ha => by
    have := hP a ha
    rw [kk, cl5]
    exact ⟨by omega, by omega, (clos_v (e := a) (by omega)).2.2 (by omega)⟩) (fun e W' q => by rw [kk, cl5]; exact hW e W' q) rW R2 G2 (fun k a => us_ne a) us_eq
  rw [kk] at J2
  have b1 := bl_rng (T := T) (n := n) (i := s + 1) (by omega)
  rw [f9_sum_46, R1.1.f16, Option.bind_some, us_eq]
  simp only [I_lit]
  rw [I_add, f2, Option.bind_some]
  rcases J2.term (.inl ⟨rfl, rfl⟩) (fun e W' q => by cases q; rw [cl5]; omega) (fun e he => by
    rcases List.mem_cons.mp he with q | q
    · subst q; omega
    · exact rW e q) with ⟨m3, f3, L⟩ | ⟨m3, f3, V⟩
  · rw [f3, Option.bind_some, if_neg (by simp)]
    exact .inl ⟨m3, rfl, L⟩
  · obtain ⟨hc3, c3, s3, it3, P3, sz3, cd3, v3, g3, J3, q3, p3, x24, x21, x14⟩ := V
    obtain ⟨m4, f4, J4⟩ := J3.put (a := y) (z := 0) (y := y) (B' := false :: Bt) (by omega) (by rw [List.getElem?_append_right (Nat.le_refl _), Nat.sub_self]; rfl) (by rcases ey with q | q <;> rw [q] <;> rfl) (by rcases yy with q | q <;> subst q <;> exact ⟨by omega, by omega, by decide, by decide⟩) (by omega)
    rw [f3, Option.bind_some, if_pos rfl, f4, Option.bind_some]
    have J5 : JJ x r m T n tx b nc hc0 c0 hm0 v0 g0 cd0 se gl k0 k1 nl once hc3 m4 c3 s3 5 sm cl it3 ((P3 ++ [en y]) ++ W) (P3 ++ [en y]).length sz3 cd3 v3 (gput g3 tx y) bb (false :: Bt) := by
      rw [List.append_assoc, List.length_append]
      exact J4
    refine hκ m4 ⟨hc3, c3, s3, it3, P3 ++ [en y], sz3, cd3, v3, gput g3 tx y, J5, fun a ha => ?_, ⟨by omega, p3.2⟩, by rw [x24]; rfl, by rw [x21]; rfl, by rw [gput_ne (by omega) (by omega), x14]⟩
    rcases List.mem_append.mp ha with q | q
    · rcases q3 with z | z
      · subst z; cases q
      · subst z; rw [List.mem_singleton] at q; omega
    · rw [List.mem_singleton] at q; omega
theorem JJ.sumLoop (hW : ∀ e W', W = e :: W' → clos e < 5) (rW : ∀ e ∈ W, 0 ≤ e ∧ e ≤ 40) (s0 : Int) : ∀ (f : Nat) (P : List Int) (hc hm : AH) (c s it sz : Int) (cd : Int → Int) (v : Nat → Int) (g : Nat → Int → Int), JJ x r m T n tx b nc hc0 c0 hm0 v0 g0 cd0 se gl k0 k1 nl once hc hm c s 5 sm cl it (P ++ W) P.length sz cd v g bb (false :: Bt) → (∀ a ∈ P, 27 ≤ a ∧ a ≤ 29) → s0 < s → kd T n s ≠ 29 → n - s < f → RES x r m T n tx b nc hc0 c0 hm0 v0 g0 cd0 se gl k0 k1 nl once (f9_sum_9 m f hm) (VP x r m T n tx b nc hc0 c0 hm0 v0 g0 cd0 se gl k0 k1 nl once v g sm cl W bb (false :: Bt) (fun P => ∀ a ∈ P, 27 ≤ a ∧ a ≤ 29) (fun s' => s0 < s' ∧ ¬ (27 ≤ kd T n s' ∧ kd T n s' ≤ 29)))
  | 0, P, hc, hm, c, s, it, sz, cd, v, g, J, hP, hs, h29, hf => by have := J.sr; omega
  | f + 1, P, hc, hm, c, s, it, sz, cd, v, g, J, hP, hs, h29, hf => by
    have sr := J.sr
    have B := sr.2.2.2.2.2.2.2.2.1
    have br := byt_rng (n := n) B sr.1
    have l43 : (I (byt T n s) = I 43) = (byt T n s = 43) := I_eq (by omega) (by omega) (by omega) (by omega)
    have l45 : (I (byt T n s) = I 45) = (byt T n s = 45) := I_eq (by omega) (by omega) (by omega) (by omega)
    have k27 := kd_one (T := T) (n := n) (s := s) (c := 43) (k := 27) rfl (.inr (by omega))
    have k28 := kd_one (T := T) (n := n) (s := s) (c := 45) (k := 28) rfl (.inr (by omega))
    obtain ⟨m1, f1, J1⟩ := J.see
    obtain ⟨m2, f2, J2⟩ := J1.see
    rw [us_us] at J2
    have rd : ∀ {mm : AH} {hcc : AH}, JJ x r m T n tx b nc hc0 c0 hm0 v0 g0 cd0 se gl k0 k1 nl once hcc mm c s 5 sm cl it (P ++ W) P.length sz cd (us v 16 s) g bb (false :: Bt) → s < n → aI 2 mm (m + 2) (I s) = some (I (sbt (T s))) := fun J z => J.2.1.1.byte sr.1 (by rw [J.2.1.2.2.1]; exact z)
    have go : ∀ m4, VP x r m T n tx b nc hc0 c0 hm0 v0 g0 cd0 se gl k0 k1 nl once v g sm cl W bb (false :: Bt) (fun P => ∀ a ∈ P, 27 ≤ a ∧ a ≤ 29) (fun s' => s < s' ∧ kd T n s' ≠ 29) m4 → RES x r m T n tx b nc hc0 c0 hm0 v0 g0 cd0 se gl k0 k1 nl once (f9_sum_9 m f m4) (VP x r m T n tx b nc hc0 c0 hm0 v0 g0 cd0 se gl k0 k1 nl once v g sm cl W bb (false :: Bt) (fun P => ∀ a ∈ P, 27 ≤ a ∧ a ≤ 29) (fun s' => s0 < s' ∧ ¬ (27 ≤ kd T n s' ∧ kd T n s' ≤ 29))) := fun m4 V => by
      obtain ⟨hc3, c3, s3, it3, P3, sz3, cd3, v3, g3, J3, q3, p3, x24, x21, x14⟩ := V
      exact (JJ.sumLoop hW rW s0 f P3 hc3 m4 c3 s3 it3 sz3 cd3 v3 g3 J3 q3 (by omega) p3.2 (by omega)).imp fun a V => V.imp x24 x21 x14 (fun _ q => q) (fun _ q => q)
    rw [f9_sum_9, f1, Option.bind_some]
    simp only [I_lit]
    by_cases z : byt T n s = 43
    · have sn : s < n := by have := byt_end (n := n) (s := s) B sr.1; omega
      have ts : T s = 43 := by unfold byt at z; rw [if_pos sn] at z; exact z
      rw [if_pos (by rw [l43]; exact z), J1.2.1.1.1.f1, Option.bind_some, J1.2.1.1.1.f16, Option.bind_some, us_eq, rd J1 sn, Option.bind_some, ts, if_pos (by rfl)]
      exact J1.more hP (y := 2) (by rw [k27.mp z]; rfl) (.inl rfl) hW rW go
    · rw [if_neg (by rw [l43]; exact z), f2, Option.bind_some]
      by_cases y : byt T n s = 45
      · have sn : s < n := by have := byt_end (n := n) (s := s) B sr.1; omega
        have ts : T s = 45 := by unfold byt at y; rw [if_pos sn] at y; exact y
        have ne : ¬ (I (sbt 45) = I 43) := by
          rw [I_eq (by decide) (by decide) (by decide) (by decide)]; decide
        rw [if_pos (by rw [l45]; exact y), J2.2.1.1.1.f1, Option.bind_some, J2.2.1.1.1.f16, Option.bind_some, us_eq, rd J2 sn, Option.bind_some, ts, if_neg ne]
        exact J2.more hP (y := 3) (by rw [k28.mp y]; rfl) (.inr rfl) hW rW go
      · rw [if_neg (by rw [l45]; exact y)]
        refine .inr ⟨m2, rfl, hc, c, s, it, P, sz, cd, _, g, J2, hP, ⟨hs, fun q => ?_⟩, rfl, rfl, rfl⟩
        have a : kd T n s ≠ 27 := fun w => z (k27.mpr w)
        have b : kd T n s ≠ 28 := fun w => y (k28.mpr w)
        omega
theorem JJ.sum (J : JJ x r m T n tx b nc hc0 c0 hm0 v0 g0 cd0 se gl k0 k1 nl once hc hm c s due sm cl it W 0 sz cd v g bb Bt) {sm' : Int} (hd : (due = 3 ∧ sm' = sm) ∨ (due = 4 ∧ sm' = 1 ∧ kd T n s ≠ 20 ∧ kd T n s ≠ 30)) (hW : ∀ e W', W = e :: W' → clos e < 5) (rW : ∀ e ∈ W, 0 ≤ e ∧ e ≤ 40) : RES x r m T n tx b nc hc0 c0 hm0 v0 g0 cd0 se gl k0 k1 nl once (f9_sum hm m) (VP x r m T n tx b nc hc0 c0 hm0 v0 g0 cd0 se gl k0 k1 nl once v g sm' cl W bb (false :: Bt) (fun P => ∀ a ∈ P, 27 ≤ a ∧ a ≤ 29) (fun s' => s < s' ∧ ¬ (27 ≤ kd T n s' ∧ kd T n s' ≤ 29))) := by
  have fu := FU_big
  have sr := J.sr
  have n4 := J.2.2.2.2.2.1
  rw [f9_sum, J.2.1.1.1.o, Option.bind_some]
  rcases J.term hd (fun e W' q => by have := hW e W' q; omega) rW with ⟨m3, f3, L⟩ | ⟨m3, f3, V⟩
  · rw [f3, Option.bind_some, if_neg (by simp)]
    exact .inl ⟨m3, rfl, L⟩
  · obtain ⟨hc3, c3, s3, it3, P3, sz3, cd3, v3, g3, J3, q3, p3, x24, x21, x14⟩ := V
    rw [f3, Option.bind_some, if_pos rfl]
    refine (JJ.sumLoop hW rW s FU P3 hc3 m3 c3 s3 it3 sz3 cd3 v3 g3 J3 (fun a ha => ?_) p3.1 p3.2 (by omega)).imp fun a V => V.imp x24 x21 x14 (fun _ q => q) (fun _ q => q)
    rcases q3 with z | z
    · subst z; cases ha
    · subst z; rw [List.mem_singleton] at ha; omega
end
