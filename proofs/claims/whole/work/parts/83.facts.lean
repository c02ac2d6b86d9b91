/-! FACTS side by side -/
theorem kd_cmp {T : Int → Int} {n s : Int} : (byt T n s = 60 → (byt T n (s + 1) = 61 → kd T n s = 23 ∧ nx T n s = s + 2) ∧ (byt T n (s + 1) ≠ 61 → kd T n s = 22 ∧ nx T n s = s + 1)) ∧ (byt T n s = 61 → kd T n s = 24 ∧ nx T n s = s + 1) ∧ (byt T n s = 62 → (byt T n (s + 1) = 61 → kd T n s = 25 ∧ nx T n s = s + 2) ∧ (byt T n (s + 1) ≠ 61 → kd T n s = 26 ∧ nx T n s = s + 1)) ∧ (22 ≤ kd T n s ∧ kd T n s ≤ 26 → byt T n s = 60 ∨ byt T n s = 61 ∨ byt T n s = 62) := by
  have k60 : kos 60 = 22 := rfl
  have k61 : kos 61 = 24 := rfl
  have k62 : kos 62 = 26 := rfl
  have gen : ∀ c, byt T n s = c → ¬ (48 ≤ c ∧ c ≤ 57) → ¬ (97 ≤ c ∧ c ≤ 122) → kd T n s = (if byt T n (s + 1) = 61 ∧ (kos c = 22 ∨ kos c = 26) then (if kos c = 22 then 23 else 25) else kos c) ∧ nx T n s = (if kos c = 33 then s else if byt T n (s + 1) = 61 ∧ (kos c = 22 ∨ kos c = 26) then s + 2 else s + 1) := fun c h a b => by
    have q := kd_byt h a b
    refine ⟨?_, ?_⟩
    · rw [q.2.2]; unfold two; rw [h]
    · unfold nx; rw [if_neg q.1, if_neg q.2.1, h]
  refine ⟨fun h => ?_, fun h => ?_, fun h => ?_, fun h => ?_⟩
  · have q := gen 60 h (by omega) (by omega)
    rw [k60] at q
    refine ⟨fun z => ?_, fun z => ?_⟩
    · rw [q.1, q.2, if_pos ⟨z, .inl rfl⟩, if_pos rfl, if_neg (by omega), if_pos ⟨z, .inl rfl⟩]; exact ⟨rfl, rfl⟩
    · rw [q.1, q.2, if_neg (fun y => z y.1), if_neg (by omega), if_neg (fun y => z y.1)]; exact ⟨rfl, rfl⟩
  · have q := gen 61 h (by omega) (by omega)
    rw [k61] at q
    rw [q.1, q.2, if_neg (by omega), if_neg (by omega), if_neg (by omega)]; exact ⟨rfl, rfl⟩
  · have q := gen 62 h (by omega) (by omega)
    rw [k62] at q
    refine ⟨fun z => ?_, fun z => ?_⟩
    · rw [q.1, q.2, if_pos ⟨z, .inr rfl⟩, if_neg (by omega), if_neg (by omega), if_pos ⟨z, .inr rfl⟩]; exact ⟨rfl, rfl⟩
    · rw [q.1, q.2, if_neg (fun y => z y.1), if_neg (by omega), if_neg (fun y => z y.1)]; exact ⟨rfl, rfl⟩
  · have q := kd_is (T := T) (n := n) (s := s) rfl h.1 (by omega)
    have w := q.2.2
    unfold two at w
    split at w
    · next z =>
      rcases z.2 with y | y
      · exact .inl (kos_inj y k60 (by omega))
      · exact .inr (.inr (kos_inj y k62 (by omega)))
    · have nn := kos_n (c := byt T n s)
      have : kos (byt T n s) = 22 ∨ kos (byt T n s) = 24 ∨ kos (byt T n s) = 26 := by omega
      rcases this with y | y | y
      · exact .inl (kos_inj y k60 (by omega))
      · exact .inr (.inl (kos_inj y k61 (by omega)))
      · exact .inr (.inr (kos_inj y k62 (by omega)))
def mo (o : Int) : Int := if o = 10 then 20 else if o = 11 then 19 else if o = 12 then 18 else 30
def dpo : List Int → Int
  | [] => 0
  | a :: L => dpo L + if a = 10 ∨ a = 91 then 1 else 0
theorem dpo_c (a : Int) (L : List Int) : dpo (a :: L) = dpo L + if a = 10 ∨ a = 91 then 1 else 0 := rfl
def nb : List Int → Nat
  | [] => 0
  | a :: L => nb L + if a = 11 ∨ a = 12 then 1 else 0
def OS (v : Nat → Int) (g : Nat → Int → Int) (O : List Int) : Prop := v 24 = (O.length : Int) ∧ hi (g 14) O ∧ v 21 = dpo O ∧ dpo O ≤ 10 ∧ ∀ o ∈ O, o = 10 ∨ o = 11 ∨ o = 12 ∨ o = 91
theorem mo_rng (o : Int) : 0 ≤ mo o ∧ mo o ≤ 40 := by
  unfold mo
  repeat' split
  all_goals omega
theorem dep_mo : ∀ O : List Int, (∀ o ∈ O, o = 10 ∨ o = 11 ∨ o = 12 ∨ o = 91) → dep (O.map mo) = dpo O
  | [], _ => rfl
  | a :: L, h => by
    have ih := dep_mo L (fun o ho => h o (List.mem_cons_of_mem _ ho))
    have ha := h a (List.mem_cons_self)
    rw [List.map_cons, dep_c, ih, dpo_c]
    rcases ha with q | q | q | q <;> subst q <;> rfl
theorem map_rng {O : List Int} : ∀ e ∈ O.map mo, 0 ≤ e ∧ e ≤ 40 := fun e he => by
  obtain ⟨o, -, q⟩ := List.mem_map.mp he
  rw [← q]; exact mo_rng o
theorem OS.of {v v' : Nat → Int} {g g' : Nat → Int → Int} {O : List Int} (S : OS v g O) (a : v' 24 = v 24) (b : v' 21 = v 21) (c : g' 14 = g 14) : OS v' g' O := by
  unfold OS
  rw [a, b, c]
  exact S
section
variable {x r m : Nat} {T : Int → Int} {n tx b nc : Int} {hc0 : AH} {c0 : Int} {hm0 : AH} {v0 : Nat → Int} {g0 : Nat → Int → Int} {cd0 : Int → Int} {se : Int64} {gl : Nat → Int → Int64} {k0 k1 nl once : Int} {hc hm : AH} {c s due sm cl it : Int} {W : List Int} {k : Nat} {sz : Int} {cd : Int → Int} {v v1 : Nat → Int} {g g1 : Nat → Int → Int} {bb : Int} {Bt : List Bool}
/-- a sign of a FACT on both sides -/
theorem JJ.sgn {P : List Int} (J : JJ x r m T n tx b nc hc0 c0 hm0 v0 g0 cd0 se gl k0 k1 nl once hc hm c s 5 1 cl it (P ++ W) P.length sz cd v g bb Bt) (kk : 22 ≤ kd T n s ∧ kd T n s ≤ 26) (i60 : it < 60) (hP : ∀ a ∈ P, 27 ≤ a ∧ a ≤ 29) (hW : ∀ e W', W = e :: W' → clos e < 4) (rW : ∀ e ∈ W, 0 ≤ e ∧ e ≤ 40) {hm' : AH} {v' : Nat → Int} (R' : RF hm' m v' se g gl T) (F' : Fr m (m + 24) hm hm') (vk : ∀ k, k ≠ 16 → k ≠ 20 → v' k = v k) (e16 : v' 16 = nx T n s) (e20' : v' 20 = it + 1) : ∃ hc', JJ x r m T n tx b nc hc0 c0 hm0 v0 g0 cd0 se gl k0 k1 nl once hc' hm' (c + 1) (bl T n (nx T n s)) 3 2 cl (it + 1) (kd T n s :: W) 0 (sz + P.length) (apd cd sz P) v' g bb Bt := by
  have sr := J.sr
  obtain ⟨⟨K, FC, PE⟩, ⟨R, FM, e2, es, w0, e19, e20, G⟩, ⟨C, S, cdb, bbb⟩, tt⟩ := J
  have B := sr.2.2.2.2.2.2.2.2.1
  obtain ⟨h1, K1, F1, e1⟩ := K.tok tt.2.2.1 B (by omega) (by omega)
  obtain ⟨-, -, OK⟩ := K1.sign tt.2.2.1 B (by omega) (by omega) tt.2.2.2.1 tt.2.2.2.2.1 (fun a ha => by
    have := hP a ha
    exact ⟨by omega, by omega, (clos_v (e := a) (by omega)).1⟩) hW rW
  obtain ⟨h2, a1, a2, a3⟩ := OK kk i60
  have ed : disp 5 x h1 = (f1_takeSign h1 (x + 24) (x + 22)).bind fun y => some y := by
    rw [← (K1.behind (by omega)).2.1 rfl]; simp [disp]
  have c3 := C.2.2.1
  exact ⟨h2, ⟨a2, (FC.trans F1).trans a3, by rw [PE, e1, ed, a1, Option.bind_some, Option.bind_some]⟩, ⟨R', FM.trans F', by rw [vk 2 (by omega) (by omega)]; exact e2, by rw [e16], by rw [vk 17 (by omega) (by omega)]; exact w0, by rw [vk 19 (by omega) (by omega)]; exact e19, e20', G.v fun k a b c d e f => vk k a d⟩, ⟨(C.emit rfl).w, ⟨S.1, S.2.1, S.2.2.1, S.2.2.2.1, by have := S.2.2.2.2; omega⟩, fun j hj => by rw [apd_lt (by omega)]; exact cdb j hj, bbb⟩, ⟨tt.1, tt.2.1, tt.2.2.1, by omega, by omega, tt.2.2.2.2.2⟩⟩
theorem JJ.cmpTail {e j : Int} (J : JJ x r m T n tx b nc hc0 c0 hm0 v0 g0 cd0 se gl k0 k1 nl once hc hm c s 3 2 cl it (e :: W) 0 sz cd v g bb (false :: Bt)) (he : 22 ≤ e ∧ e ≤ 26) (hj : 5 + j = e - 17) (rW : ∀ e ∈ W, 0 ≤ e ∧ e ≤ 40) : RES x r m T n tx b nc hc0 c0 hm0 v0 g0 cd0 se gl k0 k1 nl once ((f9_sum hm m).bind fun x155 => if x155.1 = true then (f9_puts x155.2 m (I 5 + I j) (I 0)).bind fun x169 => some (true, x169) else some (false, x155.2)) (VP x r m T n tx b nc hc0 c0 hm0 v0 g0 cd0 se gl k0 k1 nl once v g 2 cl W bb (true :: Bt) (fun P => ∀ a ∈ P, 22 ≤ a ∧ a ≤ 29) (fun s' => s < s' ∧ ¬ (27 ≤ kd T n s' ∧ kd T n s' ≤ 29))) := by
  have c4 := (clos_v (e := e) (by omega)).2.1 he.2
  rcases J.sum (.inl ⟨rfl, rfl⟩) (fun a W' q => by cases q; rw [c4]; omega) (fun a ha => by
    rcases List.mem_cons.mp ha with q | q
    · subst q; omega
    · exact rW a q) with ⟨m3, f3, L⟩ | ⟨m3, f3, V⟩
  · rw [f3, Option.bind_some, if_neg (by simp)]
    exact .inl ⟨m3, rfl, L⟩
  · obtain ⟨hc3, c3, s3, it3, P3, sz3, cd3, v3, g3, J3, q3, p3, x24, x21, x14⟩ := V
    have ey : en (5 + j) = e := by
      unfold en
      rw [if_neg (by omega), if_neg (by omega), if_neg (by omega), if_neg (by omega), if_neg (by omega), if_neg (by omega), if_neg (by omega), if_neg (by omega)]
      omega
    obtain ⟨m4, f4, J4⟩ := J3.put (a := 5 + j) (z := 0) (y := 5 + j) (B' := true :: Bt) (by omega) (by rw [List.getElem?_append_right (Nat.le_refl _), Nat.sub_self, ey]; rfl) (by
      rw [ey]; unfold tk
      rw [if_neg (by omega), if_neg (by omega), if_neg (by omega), if_pos he]) ⟨by omega, by omega, by omega, fun z => by omega⟩ (by omega)
    rw [f3, Option.bind_some, if_pos rfl, I_add, f4, Option.bind_some]
    have J5 : JJ x r m T n tx b nc hc0 c0 hm0 v0 g0 cd0 se gl k0 k1 nl once hc3 m4 c3 s3 5 2 cl it3 ((P3 ++ [e]) ++ W) (P3 ++ [e]).length sz3 cd3 v3 (gput g3 tx (5 + j)) bb (true :: Bt) := by
      rw [List.append_assoc, List.length_append]
      exact J4
    refine .inr ⟨m4, rfl, hc3, c3, s3, it3, P3 ++ [e], sz3, cd3, v3, _, J5, fun a ha => ?_, p3, x24, x21, by rw [gput_ne (by omega) (by omega), x14]⟩
    rcases List.mem_append.mp ha with q | q
    · have := q3 a q; omega
    · rw [List.mem_singleton] at q; omega
theorem JJ.compare (J : JJ x r m T n tx b nc hc0 c0 hm0 v0 g0 cd0 se gl k0 k1 nl once hc hm c s due sm cl it W 0 sz cd v g bb Bt) (hd : due = 4 ∧ kd T n s ≠ 20 ∧ kd T n s ≠ 30) (hW : ∀ e W', W = e :: W' → clos e < 4) (rW : ∀ e ∈ W, 0 ≤ e ∧ e ≤ 40) : RES x r m T n tx b nc hc0 c0 hm0 v0 g0 cd0 se gl k0 k1 nl once (f9_compare hm m) (VP x r m T n tx b nc hc0 c0 hm0 v0 g0 cd0 se gl k0 k1 nl once v g 2 cl W bb (true :: Bt) (fun P => ∀ a ∈ P, 22 ≤ a ∧ a ≤ 29) (fun s' => s < s' ∧ ¬ (27 ≤ kd T n s' ∧ kd T n s' ≤ 29))) := by
  rw [f9_compare, J.2.1.1.1.o, Option.bind_some]
  rcases J.sum (sm' := 1) (.inr ⟨hd.1, rfl, hd.2.1, hd.2.2⟩) (fun e W' q => by have := hW e W' q; omega) rW with ⟨m3, f3, L⟩ | ⟨m3, f3, V⟩
  · rw [f3, Option.bind_some, if_neg (by simp)]
    exact .inl ⟨m3, rfl, L⟩
  obtain ⟨hc3, c3, s3, it3, P3, sz3, cd3, v3, g3, J3, q3, p3, x24, x21, x14⟩ := V
  have sr := J3.sr
  have n4 := J3.2.2.2.2.2.1
  have B := sr.2.2.2.2.2.2.2.2.1
  have br := byt_rng (n := n) B sr.1
  obtain ⟨m4, f4, J4⟩ := J3.see
  have bn := byt_end (n := n) (s := s3) B sr.1
  have kc := kd_cmp (T := T) (n := n) (s := s3)
  rw [f3, Option.bind_some, if_pos rfl, f4, Option.bind_some, J4.2.1.1.1.f16, Option.bind_some, us_eq]
  simp only [I_lit]
  have l60 : (I (byt T n s3) = I 60) = (byt T n s3 = 60) := I_eq (by omega) (by omega) (by omega) (by omega)
  have l61 : (I (byt T n s3) = I 61) = (byt T n s3 = 61) := I_eq (by omega) (by omega) (by omega) (by omega)
  have l62 : (I (byt T n s3) = I 62) = (byt T n s3 = 62) := I_eq (by omega) (by omega) (by omega) (by omega)
  -- the class's half of a FAULT
  have cls : ∀ kk, (kk = 0 ∧ ¬ (22 ≤ kd T n s3 ∧ kd T n s3 ≤ 26)) ∨ (kk = 3 ∧ (22 ≤ kd T n s3 ∧ kd T n s3 ≤ 26) ∧ it3 = 60) → ∃ h1, Fc x r hc3 h1 ∧ PLo x hc3 c3 = (disp 5 x h1).bind (fun h2 => PLo x h2 (c3 + 1)) ∧ FO x r T n c3 s3 h1 (disp 5 x h1) kk := fun kk hk => by
    obtain ⟨⟨K, FC, PE⟩, RR, ⟨C, S, cdb, bbb⟩, tt⟩ := J4
    obtain ⟨h1, K1, F1, e1⟩ := K.tok n4 B (by omega) (by omega)
    obtain ⟨O0, O3, -⟩ := K1.sign n4 B (by omega) (by omega) tt.2.2.2.1 tt.2.2.2.2.1 (fun a ha => by
      have := q3 a ha
      exact ⟨by omega, by omega, (clos_v (e := a) (by omega)).1⟩) hW rW
    have ed : disp 5 x h1 = (f1_takeSign h1 (x + 24) (x + 22)).bind fun y => some y := by
      rw [← (K1.behind p3.2).2.1 rfl]; simp [disp]
    refine ⟨h1, F1, e1, ?_⟩
    rw [ed]
    rcases hk with ⟨a, b⟩ | ⟨a, b, d⟩
    · subst a; exact (O0 b).b (Fc.refl _ _ _)
    · subst a; exact (O3 b d).b (Fc.refl _ _ _)
  -- the sign, gone over
  have tail : ∀ (e2 : Int) (also : Bool) (hm' : AH), nx T n s3 = e2 → 22 ≤ kd T n s3 ∧ kd T n s3 ≤ 26 → RF hm' m (us v3 16 e2) se g3 gl T → Fr m (m + 24) m4 hm' → (kd T n s3 = (if byt T n s3 = 60 then (if also = true then 23 else 22) else if byt T n s3 = 61 then 24 else if also = true then 25 else 26)) → RES x r m T n tx b nc hc0 c0 hm0 v0 g0 cd0 se gl k0 k1 nl once (f9_compare_105 hm' m (I (byt T n s3)) (I s3) also) (VP x r m T n tx b nc hc0 c0 hm0 v0 g0 cd0 se gl k0 k1 nl once v g 2 cl W bb (true :: Bt) (fun P => ∀ a ∈ P, 22 ≤ a ∧ a ≤ 29) (fun s' => s < s' ∧ ¬ (27 ≤ kd T n s' ∧ kd T n s' ≤ 29))) := fun e2 also hm' en2 kk R' F' ek => by
    have tt := J4.2.2.2
    have w0 := J4.2.1.2.2.2.2.1
    have e20 := J4.2.1.2.2.2.2.2.2.1
    obtain ⟨M60, Mlt⟩ := R'.makes (p := s3) (it := it3) (by rw [us_ne (by omega)]; rw [us_ne (by omega)] at w0; exact w0) (by rw [us_ne (by omega)]; rw [us_ne (by omega)] at e20; exact e20) tt.2.2.2.1 tt.2.2.2.2.1
    rw [f9_compare_105]
    simp only [I_lit]
    by_cases z : it3 = 60
    · obtain ⟨m5, f5, R5, G5⟩ := M60 z
      obtain ⟨h1, F1, E1, O⟩ := cls 3 (.inr ⟨rfl, kk, z⟩)
      rw [f5, Option.bind_some, if_neg (by simp)]
      exact .inl ⟨m5, rfl, J4.fail F1 E1 (by omega) (by omega) O R5 (F'.trans G5) us_eq (J4.2.1.2.2.2.2.2.2.2.v fun k a b c d e f => by rw [us_ne (by omega), us_ne (by omega), us_ne (by omega)]) (by rw [us_ne (by omega), us_ne (by omega)]; exact J3.2.1.2.2.1)⟩
    · obtain ⟨m5, f5, R5, G5⟩ := Mlt (by omega)
      obtain ⟨hc5, J5⟩ := J4.sgn kk (by omega) q3 hW rW R5 (F'.trans G5) (fun k a b => by rw [us_ne b, us_ne a, us_ne a]) (by rw [us_ne (by omega), us_eq, en2]) us_eq
      have nr := nx_rng B sr.1 sr.2.1 n4
      have bl5 := bl_rng (T := T) nr.2.1
      have n2 := nr.2.2 (by omega)
      have fin : ∀ j, 5 + j = kd T n s3 - 17 → RES x r m T n tx b nc hc0 c0 hm0 v0 g0 cd0 se gl k0 k1 nl once ((f9_sum m5 m).bind fun x155 => if x155.1 = true then (f9_puts x155.2 m (I 5 + I j) (I 0)).bind fun x169 => some (true, x169) else some (false, x155.2)) (VP x r m T n tx b nc hc0 c0 hm0 v0 g0 cd0 se gl k0 k1 nl once v g 2 cl W bb (true :: Bt) (fun P => ∀ a ∈ P, 22 ≤ a ∧ a ≤ 29) (fun s' => s < s' ∧ ¬ (27 ≤ kd T n s' ∧ kd T n s' ≤ 29))) := fun j hj => by
        refine (J5.cmpTail kk hj rW).imp fun a V => V.imp ?_ ?_ x14 (fun _ q => q) (fun _ q => ⟨by omega, q.2⟩)
        · rw [us_ne (by omega), us_ne (by omega)]; exact x24
        · rw [us_ne (by omega), us_ne (by omega)]; exact x21
      rw [f5, Option.bind_some, if_pos rfl]
      by_cases y60 : byt T n s3 = 60
      · rw [if_pos y60] at ek
        rw [if_pos (by rw [l60]; exact y60)]
        cases also with
        | true => rw [if_pos rfl] at ek ⊢; exact fin 1 (by omega)
        | false => rw [if_neg (by simp)] at ek ⊢; exact fin 0 (by omega)
      · rw [if_neg y60] at ek
        rw [if_neg (by rw [l60]; exact y60)]
        by_cases y61 : byt T n s3 = 61
        · rw [if_pos y61] at ek
          rw [if_pos (by rw [l61]; exact y61)]
          exact fin 2 (by omega)
        · rw [if_neg y61] at ek
          rw [if_neg (by rw [l61]; exact y61)]
          cases also with
          | true => rw [if_pos rfl] at ek ⊢; exact fin 3 (by omega)
          | false => rw [if_neg (by simp)] at ek ⊢; exact fin 4 (by omega)
  by_cases any : byt T n s3 = 60 ∨ byt T n s3 = 61 ∨ byt T n s3 = 62
  · have sn : s3 < n := by omega
    have e44 : (if I (byt T n s3) = I 60 then f9_compare_44 m4 m (I (byt T n s3)) (I s3) else if I (byt T n s3) = I 61 then f9_compare_44 m4 m (I (byt T n s3)) (I s3) else if I (byt T n s3) = I 62 then f9_compare_44 m4 m (I (byt T n s3)) (I s3) else (f9_fails m4 m (I 0) (I s3)).bind fun x40 => some (x40.1, x40.2)) = f9_compare_44 m4 m (I (byt T n s3)) (I s3) := by
      by_cases a : byt T n s3 = 60
      · rw [if_pos (by rw [l60]; exact a)]
      · rw [if_neg (by rw [l60]; exact a)]
        by_cases b : byt T n s3 = 61
        · rw [if_pos (by rw [l61]; exact b)]
        · rw [if_neg (by rw [l61]; exact b), if_pos (by rw [l62]; omega)]
    rw [e44]
    obtain ⟨m5, f5, R5, G5⟩ := J4.2.1.1.to (s3 + 1) (by omega) (by rw [J4.2.1.2.2.1]; omega)
    rw [us_us] at R5
    have q2 : us v3 16 (s3 + 1) 2 = n := J3.2.1.2.2.1
    have q16 : us v3 16 (s3 + 1) 16 = s3 + 1 := us_eq
    rw [f9_compare_44, J4.2.1.1.1.f16, Option.bind_some, us_eq]
    simp only [I_lit]
    rw [I_add, f5, Option.bind_some]
    by_cases y61 : byt T n s3 = 61
    · have k2 := kc.2.1 y61
      rw [if_pos (by rw [l61]; exact y61), if_pos trivial]
      refine tail (s3 + 1) false m5 k2.2 (by omega) R5 G5 ?_
      rw [if_neg (by omega), if_pos y61]; exact k2.1
    · rw [if_neg (by rw [l61]; exact y61), R5.1.f16, Option.bind_some, R5.1.f2, Option.bind_some, q16, q2]
      have ln : (I n ≤ I (s3 + 1)) = (n ≤ s3 + 1) := I_le (by omega) (by omega) (by omega) (by omega)
      have noalso : byt T n (s3 + 1) ≠ 61 → RES x r m T n tx b nc hc0 c0 hm0 v0 g0 cd0 se gl k0 k1 nl once (f9_compare_105 m5 m (I (byt T n s3)) (I s3) false) (VP x r m T n tx b nc hc0 c0 hm0 v0 g0 cd0 se gl k0 k1 nl once v g 2 cl W bb (true :: Bt) (fun P => ∀ a ∈ P, 22 ≤ a ∧ a ≤ 29) (fun s' => s < s' ∧ ¬ (27 ≤ kd T n s' ∧ kd T n s' ≤ 29))) := fun na => by
        by_cases y60 : byt T n s3 = 60
        · have k2 := (kc.1 y60).2 na
          refine tail (s3 + 1) false m5 k2.2 (by omega) R5 G5 ?_
          rw [if_pos y60, if_neg (by simp)]; exact k2.1
        · have k2 := (kc.2.2.1 (by omega)).2 na
          refine tail (s3 + 1) false m5 k2.2 (by omega) R5 G5 ?_
          rw [if_neg y60, if_neg y61, if_neg (by simp)]; exact k2.1
      by_cases sn1 : n ≤ s3 + 1
      · rw [if_pos (by rw [ln]; exact sn1), if_pos trivial]
        exact noalso (by have := (byt_end (n := n) (s := s3 + 1) B (by omega)).mpr sn1; omega)
      · have bb1 : byt T n (s3 + 1) = T (s3 + 1) := by unfold byt; rw [if_pos (by omega)]
        have tb := B (s3 + 1) (by omega) (by omega)
        have sb := sbt_of tb.1 tb.2
        have l1 : (I (sbt (T (s3 + 1))) = I 61) = (sbt (T (s3 + 1)) = 61) := I_eq (by omega) (by omega) (by omega) (by omega)
        rw [if_neg (by rw [ln]; exact sn1), R5.1.f1, Option.bind_some, Option.bind_some, R5.byte (by omega) (by rw [q2]; omega), Option.bind_some]
        by_cases al : byt T n (s3 + 1) = 61
        · obtain ⟨m6, f6, R6, G6⟩ := R5.to (s3 + 2) (by omega) (by rw [q2]; omega)
          rw [us_us] at R6
          have n01 : ¬ (I 1 = I 0) := by rw [I_eq (by omega) (by omega) (by omega) (by omega)]; omega
          rw [if_pos (by rw [l1]; omega), if_neg n01, Option.bind_some, I_add, show s3 + 1 + 1 = s3 + 2 by omega, f6, Option.bind_some]
          by_cases y60 : byt T n s3 = 60
          · have k2 := (kc.1 y60).1 al
            refine tail (s3 + 2) true m6 k2.2 (by omega) R6 (G5.trans G6) ?_
            rw [if_pos y60, if_pos rfl]; exact k2.1
          · have k2 := (kc.2.2.1 (by omega)).1 al
            refine tail (s3 + 2) true m6 k2.2 (by omega) R6 (G5.trans G6) ?_
            rw [if_neg y60, if_neg y61, if_pos rfl]; exact k2.1
        · rw [if_neg (by rw [l1]; omega), if_pos trivial]
          exact noalso al
  · have nk : ¬ (22 ≤ kd T n s3 ∧ kd T n s3 ≤ 26) := fun z => any (kc.2.2.2 z)
    obtain ⟨m5, f5, R5, G5⟩ := J4.2.1.1.fails (k := 0) (i := s3) J4.2.1.2.2.2.2.1
    obtain ⟨h1, F1, E1, O⟩ := cls 0 (.inl ⟨rfl, nk⟩)
    rw [if_neg (by rw [l60]; omega), if_neg (by rw [l61]; omega), if_neg (by rw [l62]; omega), f5, Option.bind_some]
    exact .inl ⟨m5, rfl, J4.fail F1 E1 (by omega) (by omega) O R5 G5 us_eq (J4.2.1.2.2.2.2.2.2.2.v fun k a b c d e f => by rw [us_ne (by omega)]) (by rw [us_ne (by omega), us_ne (by omega)]; exact J3.2.1.2.2.1)⟩
end
