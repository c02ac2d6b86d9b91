/-! a text read as a READER, as a MAKER: both sides -/
section
variable {h h' : AH} {x : Nat}
theorem WD.kp {w : Nat} {r : Int → Int} {c : Nat → Int → Int} (W : WD h w r c) (e : ∀ z, w ≤ z → z < w + 20 → h'.2 z = h.2 z) : WD h' w r c := ⟨W.1.at (e _ (by omega) (by omega)), ⟨W.st.1.at (e _ (by omega) (by omega)), W.st.2.1.at (e _ (by omega) (by omega)), W.st.2.2⟩, ⟨W.tr.1.at (e _ (by omega) (by omega)), W.tr.2.1.at (e _ (by omega) (by omega)), W.tr.2.2.1.at (e _ (by omega) (by omega)), W.tr.2.2.2⟩, ⟨W.fa.1.at (e _ (by omega) (by omega)), W.fa.2.1.at (e _ (by omega) (by omega)), W.fa.2.2.1.at (e _ (by omega) (by omega)), W.fa.2.2.2⟩, ⟨W.pi.1.at (e _ (by omega) (by omega)), W.pi.2.1.at (e _ (by omega) (by omega)), W.pi.2.2⟩, ⟨W.pg.1.at (e _ (by omega) (by omega)), W.pg.2.1.at (e _ (by omega) (by omega)), W.pg.2.2.1.at (e _ (by omega) (by omega)), W.pg.2.2.2⟩, ⟨W.lo.1.at (e _ (by omega) (by omega)), W.lo.2.1.at (e _ (by omega) (by omega)), W.lo.2.2⟩, ⟨W.te.1.at (e _ (by omega) (by omega)), W.te.2.1.at (e _ (by omega) (by omega)), W.te.2.2⟩, ⟨W.pe.1.at (e _ (by omega) (by omega)), W.pe.2.1.at (e _ (by omega) (by omega)), W.pe.2.2⟩, W.cr⟩
theorem RDx.kp {a : Nat} {u : Nat → Int} {cd : Int → Int} (D : RDx h a u cd) (e : ∀ z, a ≤ z → z < a + 3 → h'.2 z = h.2 z) : RDx h' a u cd := by
  obtain ⟨v, sk, D, y⟩ := D
  exact ⟨v, sk, ⟨D.1.at (e _ (by omega) (by omega)), D.2.1.at (e _ (by omega) (by omega)), D.2.2.at (e _ (by omega) (by omega))⟩, y⟩
theorem MK.kp {a : Nat} {u : Nat → Int} {sr : Int → Int} (K : MK h a u sr) (e : ∀ z, a ≤ z → z < a + 2 → h'.2 z = h.2 z) : MK h' a u sr := ⟨K.1.at (e _ (by omega) (by omega)), K.2.at (e _ (by omega) (by omega))⟩
theorem EC.read {r : Int → Int} {c : Nat → Int → Int} {nr nm nr' nm' : Int} {t t' : Nat → Int} {T : Int → Int} {q : Int → Option Nat} {ru ru' : Int → Nat → Int} {rc rc' : Int → Int → Int} {mu mu' : Int → Nat → Int} {ms ms' : Int → Int → Int} (E : EC h x r c nr nm t T q ru rc mu ms) (f : ∀ a, x + 1 ≤ a → a < x + 35 → ¬ (x + 22 ≤ a ∧ a < x + 26) → h'.2 a = h.2 a) (O' : XO h' x nr' nm') (P' : TP h' (x + 22) t' T) (B' : ∃ q1 q2 u w, PB h' (x + 24) q1 q2 u w) (D' : ∀ k : Int, 0 ≤ k → k < 8 → RDx h' (x + 35 + 3 * k.toNat) (ru' k) (rc' k)) (K' : ∀ k : Int, 0 ≤ k → k < 6 → MK h' (x + 59 + 2 * k.toNat) (mu' k) (ms' k)) : EC h' x r c nr' nm' t' T q ru' rc' mu' ms' := by
  have N := E.row (h' := h') (fun z z0 z1 => f z (by omega) (by omega) (by omega))
  obtain ⟨O, W, A1, P, B, A2, A3, ⟨ww, H⟩, -, D, K⟩ := E
  exact ⟨O', W.kp (fun z z0 z1 => f z (by omega) (by omega) (by omega)), A1.at (f _ (by omega) (by omega) (by omega)), P', B', A2.at (f _ (by omega) (by omega) (by omega)), A3.at (f _ (by omega) (by omega) (by omega)), ⟨ww, H.at (f _ (by omega) (by omega) (by omega))⟩, N, D', K'⟩
theorem c_reader (S : EST h x) : EB x h (fun h => f8_reader h x) (fun h => f9_reader h (x + 71)) := by
  obtain ⟨c, nr, nm, t, T, q, ru, rc, mu, ms, sg, cl, nc, v, se, g, gl, C, M, E, L⟩ := S
  have L' := L
  obtain ⟨l1, l2, l3, l4, l5, l6, l7, l8, l9, l10, l11, l12⟩ := L
  subst l1
  subst l2
  obtain ⟨O, W, -, P, ⟨q1, q2, u, w, B⟩, A2, A3, -, -, D, K⟩ := id C
  by_cases ok : v 14 = 8
  · refine ⟨I (-1), h, h, ?_, ?_, ⟨c, v 14, v 15, t, T, q, ru, rc, mu, ms, sg, cl, nc, v, se, g, gl, C, M, E, L'⟩⟩
    · show f8_reader h x = _
      rw [f8_reader]
      simp only [I_lit, I_neg]
      rw [O.o, Option.bind_some, O.f5, Option.bind_some, O.f4, Option.bind_some, A2.n (by decide), Option.bind_some, I_sub, isFrom_of (by omega) (by omega) (by omega) (by omega) (by omega) (by omega), Option.bind_some, if_neg (by simp; omega)]
    · show f9_reader h (x + 71) = _
      rw [f9_reader]
      simp only [I_lit, I_neg]
      rw [M.o, Option.bind_some, M.f14, Option.bind_some, if_pos (by rw [ok])]
  have ag := A2.g (i := v 14) (by omega) (by omega)
  obtain ⟨u0, sk0, D0, -⟩ := D (v 14) (by omega) (by omega)
  obtain ⟨wr, hc, hm, g1, v1, e1, -, w0, w1, F1, B1, ⟨t1, P1, z1⟩, -⟩ := text_reader B P D0 (by omega) l8 l9 l10 M l7 rfl (tx := v 14) (by omega) (by omega)
  have O1 : XO hc x (v 14) (v 15) := OB.at O (F1.2 x (by omega))
  obtain ⟨h2, e2, P2, F2⟩ := P1.cut (n := 0) (by omega) (by omega) (by omega)
  have O2 := O1.fr F2 (by omega)
  have G1 : Fr x (x + 71) h hc := ⟨F1.1, fun a ha => F1.2 a (by omega)⟩
  have G2 : Fr x (x + 71) h h2 := G1.trans (F2.mono (by omega) (by omega))
  have wz : (I wr = I 0) = (wr = 0) := I_eq (by omega) (by omega) (by omega) (by omega)
  have wn : (I wr ≤ I 0) = (wr ≤ 0) := I_le (by omega) (by omega) (by omega) (by omega)
  have ne : ¬ (I (v 14) = I 8) := by rw [I_eq (by omega) (by omega) (by omega) (by omega)]; exact ok
  obtain ⟨hF, nF, e4, O3, P3, G3, eF, K3⟩ : ∃ hF nF, f8_reader h x = some (I (if wr = 0 then v 14 else -2 - wr), hF) ∧ XO hF x nF (v 15) ∧ TP hF (x + 22) (us t1 1 0) T ∧ Fr x (x + 71) h hF ∧ nF = (if wr = 0 then v 14 + 1 else v 14) ∧ (∀ a, a ≠ x → ¬ (x + 22 ≤ a ∧ a < x + 24) → hF.2 a = hc.2 a) := by
    by_cases z : wr = 0
    · obtain ⟨h3, e3, O3, F3⟩ := O2.s5 (v 14 + 1)
      refine ⟨h3, v 14 + 1, ?_, O3, P2.fr F3 (by omega), G2.trans (F3.mono (by omega) (by omega)), by rw [if_pos z], fun a a0 a1 => by rw [F3.2 a (by omega), F2.2 a (by omega)]⟩
      rw [f8_reader]
      simp only [I_lit, I_neg]
      rw [O.o, Option.bind_some, O.f5, Option.bind_some, O.f4, Option.bind_some, A2.n (by decide), Option.bind_some, I_sub, isFrom_of (by omega) (by omega) (by omega) (by omega) (by omega) (by omega), Option.bind_some, if_pos (decide_eq_true ⟨by omega, by omega⟩), O.f3, Option.bind_some, O.f2, Option.bind_some, Option.bind_some, Option.bind_some, ag, Option.bind_some, e1, Option.bind_some]
      dsimp only
      rw [O1.f2, Option.bind_some, e2, Option.bind_some, if_pos (wz ▸ z), O2.f5, Option.bind_some, I_add, e3, Option.bind_some, O3.f5, Option.bind_some, I_sub, if_pos z, show v 14 + 1 - 1 = v 14 by omega]
    · refine ⟨h2, v 14, ?_, O2, P2, G2, by rw [if_neg z], fun a a0 a1 => F2.2 a (by omega)⟩
      rw [f8_reader]
      simp only [I_lit, I_neg]
      rw [O.o, Option.bind_some, O.f5, Option.bind_some, O.f4, Option.bind_some, A2.n (by decide), Option.bind_some, I_sub, isFrom_of (by omega) (by omega) (by omega) (by omega) (by omega) (by omega), Option.bind_some, if_pos (decide_eq_true ⟨by omega, by omega⟩), O.f3, Option.bind_some, O.f2, Option.bind_some, Option.bind_some, Option.bind_some, ag, Option.bind_some, e1, Option.bind_some]
      dsimp only
      rw [O1.f2, Option.bind_some, e2, Option.bind_some, if_neg (wz ▸ z), I_sub, if_neg z]
  have MF_ := M.fr G3 (by omega)
  obtain ⟨wr', hc', hm, g1, v1, e1', e3, y0, y1, -, ⟨q1', q2', u', w', B1'⟩, -, ⟨ru1, cd1, sk1, D1, Y1⟩, M1, F4, V2, V1, H⟩ := text_reader B P D0 (by omega) l8 l9 l10 MF_ l7 rfl (tx := v 14) (by omega) (by omega)
  rw [e1] at e1'
  have ee := Option.some.inj e1'
  have ec : hc = hc' := congrArg Prod.snd ee
  have ew : I wr = I wr' := congrArg Prod.fst ee
  subst ec
  obtain ⟨hR, vR, e5, M5, F5, v14, v15, v2⟩ : ∃ hR vR, f9_reader hF (x + 71) = some (I (if wr = 0 then v 14 else -2 - wr), hR) ∧ MO hR (x + 71) vR se g1 gl ∧ Fr (x + 71) (x + 71 + 24) hF hR ∧ vR 14 = nF ∧ vR 15 = v 15 ∧ vR 2 = 0 := by
    have f14 := M1.f14
    rw [V1 14 (by omega) (by omega) (by omega) (by omega) (by omega) (by omega) (by omega) (by omega) (by omega)] at f14
    by_cases z : wr = 0
    · obtain ⟨h3, e6, M6, F6⟩ := M1.s14 (v 14 + 1)
      refine ⟨h3, _, ?_, M6, F4.trans F6, by rw [us_eq, eF, if_pos z], by rw [us_ne (by omega)]; exact V1 15 (by omega) (by omega) (by omega) (by omega) (by omega) (by omega) (by omega) (by omega) (by omega), by rw [us_ne (by omega)]; exact V2⟩
      have f14' := M6.f14
      rw [us_eq] at f14'
      rw [f9_reader]
      simp only [I_lit, I_neg]
      rw [MF_.o, Option.bind_some, MF_.f14, Option.bind_some, if_neg ne, Option.bind_some, e3, Option.bind_some]
      dsimp only
      rw [← ew, if_pos (by rw [wn]; omega), f14, Option.bind_some, I_add, e6, Option.bind_some, f14', Option.bind_some, I_sub, if_pos z, show v 14 + 1 - 1 = v 14 by omega]
    · refine ⟨hm, v1, ?_, M1, F4, by rw [eF, if_neg z]; exact V1 14 (by omega) (by omega) (by omega) (by omega) (by omega) (by omega) (by omega) (by omega) (by omega), V1 15 (by omega) (by omega) (by omega) (by omega) (by omega) (by omega) (by omega) (by omega) (by omega), V2⟩
      rw [f9_reader]
      simp only [I_lit, I_neg]
      rw [MF_.o, Option.bind_some, MF_.f14, Option.bind_some, if_neg ne, Option.bind_some, e3, Option.bind_some]
      dsimp only
      rw [← ew, if_neg (by rw [wn]; omega), I_sub, if_neg z]
  have ew' : wr' = wr := by
    have := I_eq (a := wr) (b := wr') (by omega) (by omega) (by omega) (by omega)
    exact (this.mp ew).symm
  have xr : x + 35 + 3 * (v 14).toNat + 3 ≤ x + 59 := by omega
  have kp : ∀ a, a ≠ x → ¬ (x + 22 ≤ a ∧ a < x + 26) → ¬ (x + 35 + 3 * (v 14).toNat ≤ a ∧ a < x + 35 + 3 * (v 14).toNat + 3) → hF.2 a = h.2 a := fun a a0 a1 a2 => by rw [K3 a a0 (by omega), F1.2 a (by omega)]
  have nn : nF = v 14 ∨ nF = v 14 + 1 := by rw [eF]; split <;> omega
  have C3 : EC hF x (g 1) c nF (v 15) (us t1 1 0) T q (fun k => if k = v 14 then ru1 else ru k) (fun k => if k = v 14 then cd1 else rc k) mu ms := by
    refine C.read (fun a a0 a1 a2 => kp a (by omega) a2 (by omega)) O3 P3 ⟨q1', q2', u', w', ⟨B1'.1.at (K3 _ (by omega) (by omega)), B1'.2.at (K3 _ (by omega) (by omega))⟩⟩ (fun k k0 k1 => ?_) (fun k k0 k1 => (K k k0 k1).kp fun z z0 z1 => kp z (by omega) (by omega) (by omega))
    by_cases e : k = v 14
    · rw [if_pos e, if_pos e, e]
      have D2 : RDx hc (x + 35 + 3 * (v 14).toNat) ru1 cd1 := ⟨ru1, sk1, D1, fun _ _ => rfl⟩
      exact D2.kp fun z z0 z1 => K3 z (by omega) (by omega)
    · rw [if_neg e, if_neg e]
      exact (D k k0 k1).kp fun z z0 z1 => kp z (by omega) (by omega) (by omega)
  have H0 := H.1
  refine ⟨_, hF, hR, e4, e5, c, nF, v 15, us t1 1 0, T, q, fun k => if k = v 14 then ru1 else ru k, fun k => if k = v 14 then cd1 else rc k, mu, ms, fun k j => g1 3 (400 * k + j), fun k j => g1 5 (48 * k + j), fun k => g1 6 k, vR, se, g1, gl, ?_, M5, ?_, ?_⟩
  · rw [H0 1 (by omega)]; exact C3.fr F5 (by omega)
  · exact ((E.fr G3 (by omega)).fr F5 (by omega)).im (H0 22 (by omega)) (H0 23 (by omega))
  · refine ⟨v14, v15, by omega, by omega, l5, l6, ?_, by rw [us_eq, v2], by omega, by omega, fun k k0 k1 => ?_, fun k k0 k1 => ⟨(l12 k k0 k1).1, (l12 k k0 k1).2.hr (l12 k k0 k1).1 H (by omega)⟩⟩
    · rw [v2]; intro i i0 i1; omega
    · by_cases e : k = v 14
      · have z : wr' = 0 := by
          rw [ew']
          by_cases z : wr = 0
          · exact z
          · rw [if_neg z] at eF; omega
        obtain ⟨sg2, cl2, nc2, Y⟩ := Y1 z
        have Z := Y.own
        subst e
        dsimp only
        rw [if_pos rfl, if_pos rfl]
        exact Z
      · dsimp only
        rw [if_neg e, if_neg e]
        exact (l11 k k0 (by omega)).hr H e
theorem c_maker (S : EST h x) : EB x h (fun h => f8_maker h x) (fun h => f9_maker h (x + 71)) := by
  obtain ⟨c, nr, nm, t, T, q, ru, rc, mu, ms, sg, cl, nc, v, se, g, gl, C, M, E, L⟩ := S
  have L' := L
  obtain ⟨l1, l2, l3, l4, l5, l6, l7, l8, l9, l10, l11, l12⟩ := L
  subst l1
  subst l2
  obtain ⟨O, W, -, P, ⟨q1, q2, u, w, B⟩, A2, A3, -, -, D, K⟩ := id C
  by_cases ok : v 15 = 6
  · refine ⟨I (-1), h, h, ?_, ?_, ⟨c, v 14, v 15, t, T, q, ru, rc, mu, ms, sg, cl, nc, v, se, g, gl, C, M, E, L'⟩⟩
    · show f8_maker h x = _
      rw [f8_maker]
      simp only [I_lit, I_neg]
      rw [O.o, Option.bind_some, O.f7, Option.bind_some, O.f6, Option.bind_some, A3.n (by decide), Option.bind_some, I_sub, isFrom_of (by omega) (by omega) (by omega) (by omega) (by omega) (by omega), Option.bind_some, if_neg (by simp; omega)]
    · show f9_maker h (x + 71) = _
      rw [f9_maker]
      simp only [I_lit, I_neg]
      rw [M.o, Option.bind_some, M.f15, Option.bind_some, if_pos (by rw [ok])]
  have ag := A3.g (i := v 15) (by omega) (by omega)
  have D0 := K (v 15) (by omega) (by omega)
  obtain ⟨wr, hc, hm, g1, v1, e1, -, w0, w1, F1, B1, ⟨t1, P1, z1⟩, -⟩ := text_maker B P D0 (by omega) l8 l9 l10 M l7 rfl (tx := 8 + v 15) (by omega) (by omega)
  have O1 : XO hc x (v 14) (v 15) := OB.at O (F1.2 x (by omega))
  obtain ⟨h2, e2, P2, F2⟩ := P1.cut (n := 0) (by omega) (by omega) (by omega)
  have O2 := O1.fr F2 (by omega)
  have G1 : Fr x (x + 71) h hc := ⟨F1.1, fun a ha => F1.2 a (by omega)⟩
  have G2 : Fr x (x + 71) h h2 := G1.trans (F2.mono (by omega) (by omega))
  have wz : (I wr = I 0) = (wr = 0) := I_eq (by omega) (by omega) (by omega) (by omega)
  have wn : (I wr ≤ I 0) = (wr ≤ 0) := I_le (by omega) (by omega) (by omega) (by omega)
  have ne : ¬ (I (v 15) = I 6) := by rw [I_eq (by omega) (by omega) (by omega) (by omega)]; exact ok
  obtain ⟨hF, nF, e4, O3, P3, G3, eF, K3⟩ : ∃ hF nF, f8_maker h x = some (I (if wr = 0 then v 15 else -2 - wr), hF) ∧ XO hF x (v 14) nF ∧ TP hF (x + 22) (us t1 1 0) T ∧ Fr x (x + 71) h hF ∧ nF = (if wr = 0 then v 15 + 1 else v 15) ∧ (∀ a, a ≠ x → ¬ (x + 22 ≤ a ∧ a < x + 24) → hF.2 a = hc.2 a) := by
    by_cases z : wr = 0
    · obtain ⟨h3, e3, O3, F3⟩ := O2.s7 (v 15 + 1)
      refine ⟨h3, v 15 + 1, ?_, O3, P2.fr F3 (by omega), G2.trans (F3.mono (by omega) (by omega)), by rw [if_pos z], fun a a0 a1 => by rw [F3.2 a (by omega), F2.2 a (by omega)]⟩
      rw [f8_maker]
      simp only [I_lit, I_neg]
      rw [O.o, Option.bind_some, O.f7, Option.bind_some, O.f6, Option.bind_some, A3.n (by decide), Option.bind_some, I_sub, isFrom_of (by omega) (by omega) (by omega) (by omega) (by omega) (by omega), Option.bind_some, if_pos (decide_eq_true ⟨by omega, by omega⟩), O.f3, Option.bind_some, O.f2, Option.bind_some, Option.bind_some, Option.bind_some, ag, Option.bind_some, e1, Option.bind_some]
      dsimp only
      rw [O1.f2, Option.bind_some, e2, Option.bind_some, if_pos (wz ▸ z), O2.f7, Option.bind_some, I_add, e3, Option.bind_some, O3.f7, Option.bind_some, I_sub, if_pos z, show v 15 + 1 - 1 = v 15 by omega]
    · refine ⟨h2, v 15, ?_, O2, P2, G2, by rw [if_neg z], fun a a0 a1 => F2.2 a (by omega)⟩
      rw [f8_maker]
      simp only [I_lit, I_neg]
      rw [O.o, Option.bind_some, O.f7, Option.bind_some, O.f6, Option.bind_some, A3.n (by decide), Option.bind_some, I_sub, isFrom_of (by omega) (by omega) (by omega) (by omega) (by omega) (by omega), Option.bind_some, if_pos (decide_eq_true ⟨by omega, by omega⟩), O.f3, Option.bind_some, O.f2, Option.bind_some, Option.bind_some, Option.bind_some, ag, Option.bind_some, e1, Option.bind_some]
      dsimp only
      rw [O1.f2, Option.bind_some, e2, Option.bind_some, if_neg (wz ▸ z), I_sub, if_neg z]
  have MF_ := M.fr G3 (by omega)
  obtain ⟨wr', hc', hm, g1, v1, e1', e3, y0, y1, -, ⟨q1', q2', u', w', B1'⟩, -, ⟨ru1, cd1, D1, Y1⟩, M1, F4, V2, V1, H⟩ := text_maker B P D0 (by omega) l8 l9 l10 MF_ l7 rfl (tx := 8 + v 15) (by omega) (by omega)
  rw [e1] at e1'
  have ee := Option.some.inj e1'
  have ec : hc = hc' := congrArg Prod.snd ee
  have ew : I wr = I wr' := congrArg Prod.fst ee
  subst ec
  obtain ⟨hR, vR, e5, M5, F5, v14, v15, v2⟩ : ∃ hR vR, f9_maker hF (x + 71) = some (I (if wr = 0 then v 15 else -2 - wr), hR) ∧ MO hR (x + 71) vR se g1 gl ∧ Fr (x + 71) (x + 71 + 24) hF hR ∧ vR 14 = v 14 ∧ vR 15 = nF ∧ vR 2 = 0 := by
    have f14 := M1.f15
    rw [V1 15 (by omega) (by omega) (by omega) (by omega) (by omega) (by omega) (by omega) (by omega) (by omega)] at f14
    by_cases z : wr = 0
    · obtain ⟨h3, e6, M6, F6⟩ := M1.s15 (v 15 + 1)
      refine ⟨h3, _, ?_, M6, F4.trans F6, by rw [us_ne (by omega)]; exact V1 14 (by omega) (by omega) (by omega) (by omega) (by omega) (by omega) (by omega) (by omega) (by omega), by rw [us_eq, eF, if_pos z], by rw [us_ne (by omega)]; exact V2⟩
      have f14' := M6.f15
      rw [us_eq] at f14'
      rw [f9_maker]
      simp only [I_lit, I_neg]
      rw [MF_.o, Option.bind_some, MF_.f15, Option.bind_some, if_neg ne, Option.bind_some, I_add, e3, Option.bind_some]
      dsimp only
      rw [← ew, if_pos (by rw [wn]; omega), f14, Option.bind_some, I_add, e6, Option.bind_some, f14', Option.bind_some, I_sub, if_pos z, show v 15 + 1 - 1 = v 15 by omega]
    · refine ⟨hm, v1, ?_, M1, F4, V1 14 (by omega) (by omega) (by omega) (by omega) (by omega) (by omega) (by omega) (by omega) (by omega), by rw [eF, if_neg z]; exact V1 15 (by omega) (by omega) (by omega) (by omega) (by omega) (by omega) (by omega) (by omega) (by omega), V2⟩
      rw [f9_maker]
      simp only [I_lit, I_neg]
      rw [MF_.o, Option.bind_some, MF_.f15, Option.bind_some, if_neg ne, Option.bind_some, I_add, e3, Option.bind_some]
      dsimp only
      rw [← ew, if_neg (by rw [wn]; omega), I_sub, if_neg z]
  have ew' : wr' = wr := by
    have := I_eq (a := wr) (b := wr') (by omega) (by omega) (by omega) (by omega)
    exact (this.mp ew).symm
  have xr : x + 59 + 2 * (v 15).toNat + 2 ≤ x + 71 := by omega
  have kp : ∀ a, a ≠ x → ¬ (x + 22 ≤ a ∧ a < x + 26) → ¬ (x + 59 + 2 * (v 15).toNat ≤ a ∧ a < x + 59 + 2 * (v 15).toNat + 2) → hF.2 a = h.2 a := fun a a0 a1 a2 => by rw [K3 a a0 (by omega), F1.2 a (by omega)]
  have nn : nF = v 15 ∨ nF = v 15 + 1 := by rw [eF]; split <;> omega
  have C3 : EC hF x (g 1) c (v 14) nF (us t1 1 0) T q ru rc (fun k => if k = v 15 then ru1 else mu k) (fun k => if k = v 15 then cd1 else ms k) := by
    refine C.read (fun a a0 a1 a2 => kp a (by omega) a2 (by omega)) O3 P3 ⟨q1', q2', u', w', ⟨B1'.1.at (K3 _ (by omega) (by omega)), B1'.2.at (K3 _ (by omega) (by omega))⟩⟩ (fun k k0 k1 => (D k k0 k1).kp fun z z0 z1 => kp z (by omega) (by omega) (by omega)) (fun k k0 k1 => ?_)
    by_cases e : k = v 15
    · rw [if_pos e, if_pos e, e]
      exact D1.kp fun z z0 z1 => K3 z (by omega) (by omega)
    · rw [if_neg e, if_neg e]
      exact (K k k0 k1).kp fun z z0 z1 => kp z (by omega) (by omega) (by omega)
  have H0 := H.1
  refine ⟨_, hF, hR, e4, e5, c, v 14, nF, us t1 1 0, T, q, ru, rc, fun k => if k = v 15 then ru1 else mu k, fun k => if k = v 15 then cd1 else ms k, fun k j => g1 3 (400 * k + j), fun k j => g1 5 (48 * k + j), fun k => g1 6 k, vR, se, g1, gl, ?_, M5, ?_, ?_⟩
  · rw [H0 1 (by omega)]; exact C3.fr F5 (by omega)
  · exact ((E.fr G3 (by omega)).fr F5 (by omega)).im (H0 22 (by omega)) (H0 23 (by omega))
  · refine ⟨v14, v15, l3, l4, by omega, by omega, ?_, by rw [us_eq, v2], by omega, by omega, fun k k0 k1 => (l11 k k0 k1).hr H (by omega), fun k k0 k1 => ?_⟩
    · rw [v2]; intro i i0 i1; omega
    · by_cases e : k = v 15
      · have z : wr' = 0 := by
          rw [ew']
          by_cases z : wr = 0
          · exact z
          · rw [if_neg z] at eF; omega
        have Y := Y1 z
        subst e
        dsimp only
        rw [if_pos rfl, if_pos rfl]
        exact Y
      · dsimp only
        rw [if_neg e, if_neg e]
        have Y := l12 k k0 (by omega)
        exact ⟨Y.1, Y.2.hr Y.1 H (by omega)⟩
end
