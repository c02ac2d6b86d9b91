/-! the JDK's String code, on the class's one constant -/
section STR
variable {β : Type} {κ : Kx} {φ : β → Option Value × AH} {own : String} {cc : ByteArray} {k n pc : Nat} {L : List (Nat × Value)} {st : List Value} {h : AH}
def KS (κ : Kx) : State := κ.1.2.2.2.2.1
def KB (κ : Kx) : Nat := κ.2.2.2.1
def SQ (a : Nat) (U : State) : Prop := vk_R "SafeVolumes$Tape" 56 WTX a U
def TV (base v : Nat) (U : State) : Prop := va_T .byte v 110 (fun j => .int (WBY.getD j 0)) (fun a => base ≤ a) U U.heap
theorem SQ.eq {a : Nat} {U : State} {q : Nat} (h1 : SQ a U) (h2 : SQ q U) : a = q := by
  have := h1.2.symm.trans h2.2
  simpa using this
theorem SQ.of (hc : CX κ own cc) {a : Nat} (ha : SQ a (KS κ)) : ∃ v, SCq (KB κ) a v (KS κ) (KS κ).heap := by
  obtain ⟨⟨p, l, e, R, s, m, args, below, meth, c⟩, D, tys, base, nL, Q⟩ := κ
  obtain ⟨hx, hb, hml, hfc, hts, hK, hty, hbs, hlk, hNW, q, v, hq⟩ := hc
  have e := SQ.eq ha hq.1
  subst e
  exact ⟨v, hq⟩
theorem v_gsC (hc : CX κ own cc) {idx : Nat} (hw : Cond.fieldLink own idx "java/lang/String" "COMPACT_STRINGS" "Z" ∈ WT) {F : Option β} (hd : decode cc pc = .ok (.getstatic idx, 3)) (kk : V κ φ k n (pc + 3) L (.int (1 : Int32) :: st) h F) : V κ φ k n pc L st h F := by
  obtain ⟨⟨p, l, e, R, s, m, args, below, meth, c⟩, D, tys, base, nL, Q⟩ := κ
  obtain ⟨hx, hb, hml, hfc, hts, hK, hty, hbs, hlk, hNW, q, v, hq⟩ := hc
  intro x hv H locs ls hP hS hl
  exact va_gets hx hb hq.2.2.1 hS hfc (hts _ hw) (fun _ h => h) hd (kk x hv H locs ls hP hS hl)
theorem v_gsF (hc : CX κ own cc) {idx : Nat} (hw : Cond.fieldLink own idx "jdk/internal/util/Preconditions" "SIOOBE_FORMATTER" "Ljava/util/function/BiFunction;" ∈ WT) {F : Option β} (hd : decode cc pc = .ok (.getstatic idx, 3)) (kk : ∀ r, V κ φ k n (pc + 3) L (va_rf r :: st) h F) : V κ φ k n pc L st h F := by
  obtain ⟨⟨p, l, e, R, s, m, args, below, meth, c⟩, D, tys, base, nL, Q⟩ := κ
  obtain ⟨hx, hb, hml, hfc, hts, hK, hty, hbs, hlk, hNW, q, v, hq⟩ := hc
  intro x hv H locs ls hP hS hl
  rcases hq.2.2.2 with hz | ⟨t, hz⟩
  · exact va_gets hx hb hz hS hfc (hts _ hw) (fun _ h => h) hd (kk none x hv H locs ls hP hS hl)
  · exact va_gets hx hb hz hS hfc (hts _ hw) (fun _ h => h) hd (kk (some t) x hv H locs ls hP hS hl)
theorem v_sval (hc : CX κ own cc) {a : Nat} (ha : SQ a (KS κ)) {idx : Nat} (hw : Cond.fieldLink own idx "java/lang/String" "value" "[B" ∈ WT) {F : Option β} (hd : decode cc pc = .ok (.getfield idx, 3)) (kk : ∀ v, TV (KB κ) v (KS κ) → V κ φ k n (pc + 3) L (.ref v :: st) h F) : V κ φ k n pc L (.ref a :: st) h F := by
  obtain ⟨v0, hq⟩ := SQ.of hc ha
  obtain ⟨⟨p, l, e, R, s, m, args, below, meth, c⟩, D, tys, base, nL, Q⟩ := κ
  obtain ⟨hx, hb, hml, hfc, hts, hK, hty, hbs, hlk, hNW, -⟩ := hc
  intro x hv H locs ls hP hS hl
  have h1 := hq.2.1.1 0 (by decide)
  exact vk_getf hx hb h1.2.2.1 hS hfc (hts _ hw) (fun _ h => h) hd (kk v0 h1.2.2.2 x hv H locs ls hP hS hl)
theorem v_scod (hc : CX κ own cc) {a : Nat} (ha : SQ a (KS κ)) {idx : Nat} (hw : Cond.fieldLink own idx "java/lang/String" "coder" "B" ∈ WT) {F : Option β} (hd : decode cc pc = .ok (.getfield idx, 3)) (kk : V κ φ k n (pc + 3) L (.int (0 : Int32) :: st) h F) : V κ φ k n pc L (.ref a :: st) h F := by
  obtain ⟨v0, hq⟩ := SQ.of hc ha
  obtain ⟨⟨p, l, e, R, s, m, args, below, meth, c⟩, D, tys, base, nL, Q⟩ := κ
  obtain ⟨hx, hb, hml, hfc, hts, hK, hty, hbs, hlk, hNW, -⟩ := hc
  intro x hv H locs ls hP hS hl
  have h1 := hq.2.1.1 0 (by decide)
  exact vk_getf hx hb h1.2.1 hS hfc (hts _ hw) (fun _ h => h) hd (kk x hv H locs ls hP hS hl)
theorem v_tvl (hc : CX κ own cc) {v : Nat} (ht : TV (KB κ) v (KS κ)) {F : Option β} (hd : decode cc pc = .ok (.arraylength, 1)) (kk : V κ φ k n (pc + 1) L (.int (110 : Int32) :: st) h F) : V κ φ k n pc L (.ref v :: st) h F := by
  obtain ⟨⟨p, l, e, R, s, m, args, below, meth, c⟩, D, tys, base, nL, Q⟩ := κ
  obtain ⟨hx, hb, hml, hfc, hts, hK, hty, hbs, hlk, hNW, -⟩ := hc
  intro x hv H locs ls hP hS hl
  exact va_tlen hx hb ht hS (by decide) hd (kk x hv H locs ls hP hS hl)
theorem v_tvb (hc : CX κ own cc) {v : Nat} (ht : TV (KB κ) v (KS κ)) {i : Int32} {F : Option β} (hin : vp_in i 110) (hd : decode cc pc = .ok (.baload, 1)) (kk : V κ φ k n (pc + 1) L (.int (WBY.getD i.toNatClampNeg 0) :: st) h F) : V κ φ k n pc L (.int i :: .ref v :: st) h F := by
  obtain ⟨⟨p, l, e, R, s, m, args, below, meth, c⟩, D, tys, base, nL, Q⟩ := κ
  obtain ⟨hx, hb, hml, hfc, hts, hK, hty, hbs, hlk, hNW, -⟩ := hc
  intro x hv H locs ls hP hS hl
  exact va_tb hx hb ht hS hin rfl hd (kk x hv H locs ls hP hS hl)
theorem v_i2c (hc : CX κ own cc) {x : Int32} {F : Option β} (hd : decode cc pc = .ok (.i2c, 1)) (kk : V κ φ k n (pc + 1) L (.int (x.toUInt32 % 65536).toInt32 :: st) h F) : V κ φ k n pc L (.int x :: st) h F := by
  obtain ⟨⟨p, l, e, R, s, m, args, below, meth, c⟩, D, tys, base, nL, Q⟩ := κ
  obtain ⟨hx, hb, hml, hfc, hts, hK, hty, hbs, hlk, hNW, -⟩ := hc
  intro y hv H locs ls hP hS hl
  exact lv_i2c hx hb hd rfl (kk y hv H locs ls hP hS hl)
def CtX {β : Type} (X : State → Prop) (l : Launch) (D : va_G) (tys : Tys) (base : Nat) (y : MethodName) (bytes : ByteArray) (maxL : Nat) (ret : Option FieldType) (fr lo : Nat) (As : List Value) (h : AH) (φ : β → Option Value × AH) (F : Option β) : Prop :=
  ∀ x, F = some x → tys.map Prod.snd = TYL → Met l y (.code y bytes maxL ret :: WT) ({ frames := fr, cells := 0, slots := 0, locals := lo } : Room) (va_Pc As (fun U => (HP D tys base h U.heap ∧ va_K D vwCl tys U ∧ NW U ∧ SC base U) ∧ X U)) (Post D tys base (φ x).1 (φ x).2) 0 0 (fun q => base ≤ q)
theorem CtX.intro {β : Type} {X : State → Prop} {l : Launch} {D : va_G} {tys : Tys} {base : Nat} {y : MethodName} {cc : ByteArray} {maxL : Nat} {ret : Option FieldType} {fr lo : Nat} {As : List Value} {h : AH} {φ : β → Option Value × AH} {F : Option β} {own : String} (hown : y.cls = own) (hy : plainName y.cls = true) {L : List (Nat × Value)} (hL : lv_args 0 As = L) (hlen : (lg_sl As).length ≤ maxL)
    (body : ∀ κ : Kx, CX κ own cc → RX κ ({ frames := fr, cells := 0, slots := 0, locals := lo } : Room) → QX κ ret 0 0 → X (KS κ) → KB κ = base → V κ φ 0 0 0 L [] h F) : CtX X l D tys base y cc maxL ret fr lo As h φ F := by
  intro x hx hty
  refine Met.ofW (cc := cc) (maxL := maxL) (ret := ret) hy rfl ?_
  intro p e s m args below meth c s₁ B hml hv
  obtain ⟨rfl, ⟨hP, hK, hNW, hSC⟩, hX⟩ := hv
  have hts := atoms_spec (ws := .code y cc maxL ret :: WT) B.pre
  have hfc : s.vm.findClass own = some m.cls := hown ▸ findClass_of_methodNamed B.named
  have hl := lv_entry As (n := maxL) hlen
  rw [lg_entry_eq]
  have q := body ((p, l, e, ({ frames := fr, cells := 0, slots := 0, locals := lo } : Room), s, m, As.toArray, below, meth, c), (D, tys, base, maxL, fun r h' => MQ below (Post D tys base r h') As.toArray s 0 0 (fun q => base ≤ q)))
    ⟨B.exec, B.bytes, hml, hfc, fun w hw => hts w (List.mem_cons_of_mem _ hw), hK, hty, by rw [← hP.1]; exact hP.2.1, B.notSynchronized, hNW, hSC⟩ rfl ⟨B.returns, rfl⟩ hX rfl
  exact q x hx s.heap [] _ hP va_S.rf (hL ▸ hl)
end STR
section STRC
variable {γ : Type} {κ : Kx} {own : String} {cc : ByteArray} {k n pc : Nat} {L : List (Nat × Value)} {rest : List Value} {h : AH} {ψ : γ → Option Value × AH} {G : Option γ} {rm : Room} {y : MethodName} {bytes : ByteArray} {maxL : Nat} {ret : Option FieldType} {fr lo : Nat} {As : List Value} {b : Nat} {idx : Nat}
theorem blindX {X : State → Prop} (hX : ∀ (a : Array Value) (U : State) (g : JFrame) (mk : MethodId), X U → X (U.calling g mk a)) {D : va_G} {tys : Tys} {base : Nat} {As : List Value} {h : AH} : FrameBlind (va_Pc As (fun U => (HP D tys base h U.heap ∧ va_K D vwCl tys U ∧ NW U ∧ SC base U) ∧ X U)) := fun a U g mk q => by
  obtain ⟨q1, ⟨q2, q3, q4, q5⟩, q6⟩ := q
  exact ⟨q1, ⟨q2, va_K.moved (u := U) (U := U.calling g mk a) (Vm.Alike.refl U.vm) q3, NW.same (s := U) rfl q4, SC.same (s := U) q5 rfl rfl⟩, hX a U g mk q6⟩
theorem SQ.blind {b : Nat} (a : Array Value) (U : State) (g : JFrame) (mk : MethodId) (h : SQ b U) : SQ b (U.calling g mk a) := vk_R.same (u := U) rfl h
theorem TV.blind {base v : Nat} (a : Array Value) (U : State) (g : JFrame) (mk : MethodId) (h : TV base v U) : TV base v (U.calling g mk a) := va_T.moved (u := U) (U := U.calling g mk a) (Vm.Alike.refl U.vm) h
theorem m_VX (na : Nat) (hc : CX κ own cc) (hr : RX κ rm) (hC : ∀ l D tys base, CtX (SQ b) l D tys base y bytes maxL ret fr lo (.ref b :: As) h ψ G) (hsq : SQ b (KS κ)) (hy : YV y "java/lang/String" bytes maxL ret na) (hlk : Cond.methodLink own idx y ∈ WT) (hlen : As.length = na)
    (hR : fr + 1 ≤ rm.frames ∧ 8 + (maxL + 11) + lo ≤ rm.locals) (hf : k + 0 ≤ rm.cells ∧ n + 0 ≤ rm.slots) (h8 : (rest.map fun v => v.category).sum ≤ 8) (hdg : decode cc pc = .ok (.invokevirtual idx, 3)) : CR κ k n pc L (As.reverse ++ .ref b :: rest) rest 0 0 h ψ G := by
  obtain ⟨v0, hsc⟩ := SQ.of hc hsq
  obtain ⟨⟨p, l, e, R, s, m, args, below, meth, c⟩, D, tys, base, nL, Q⟩ := κ
  obtain ⟨hx, hb, hml, hfc, hts, hK, hty, hbs, hlkk, hNW, hSC⟩ := hc
  have hr : R = rm := hr
  subst hr
  intro x hx2 H locs ls hP hS hl
  have hGd := WT_good hy.1
  have hcw : CallW R s args own "java/lang/String" idx y bytes maxL ret (.code y bytes maxL ret :: WT) ({ frames := fr, cells := 0, slots := 0, locals := lo } : Room) 0 0 na :=
    cwV (Ts := WT) na hts (fun w hw => by
      rcases List.mem_append.mp hw with h1 | h1
      · have hm : w ∈ WT := by
          obtain ⟨g1, g2, g3, g4, -⟩ := hy
          simp only [List.mem_cons, List.not_mem_nil, or_false] at h1
          rcases h1 with rfl | rfl | rfl | rfl <;> assumption
        exact ⟨hm, good_of_word (List.mem_filter.mp hm).2⟩
      · exact hGd w h1) rfl rfl rfl hy.2.2.2.2 hR
  exact va_runV (As := As) (rest := rest) ⟨hx, hb, hml, hfc, hts⟩ (hC l D tys base x hx2 hty) hcw ⟨blindX (fun a U g mk => SQ.blind a U g mk), vk_recv hsc.2.1 (i := 0) (by decide) hS, fun U hU hW => ⟨rfl, ⟨by rw [hU]; exact hP, va_K.moved hW.alike hK, hNW.moved hW, hSC.moved hW (by rw [hU]; exact hS)⟩, vk_R.warm hW hsq⟩⟩ rfl hlen hl.1 rfl (lv_room h8) hdg hf
theorem m_SX (na : Nat) (hc : CX κ own cc) (hr : RX κ rm) {v : Nat} (hC : ∀ l D tys base, CtX (TV base v) l D tys base y bytes maxL ret fr lo As h ψ G) (htv : TV (KB κ) v (KS κ)) (hy : YS y bytes maxL ret na) (hlk : Cond.methodLink own idx y ∈ WT) (hlen : As.length = na)
    (hR : fr + 1 ≤ rm.frames ∧ 8 + (maxL + 11) + lo ≤ rm.locals) (hf : k + 0 ≤ rm.cells ∧ n + 0 ≤ rm.slots) (h8 : (rest.map fun v => v.category).sum ≤ 8) (hdg : decode cc pc = .ok (.invokestatic idx, 3)) : CR κ k n pc L (As.reverse ++ rest) rest 0 0 h ψ G := by
  obtain ⟨⟨p, l, e, R, s, m, args, below, meth, c⟩, D, tys, base, nL, Q⟩ := κ
  obtain ⟨hx, hb, hml, hfc, hts, hK, hty, hbs, hlkk, hNW, hSC⟩ := hc
  have hr : R = rm := hr
  subst hr
  intro x hx2 H locs ls hP hS hl
  exact va_runS (As := As) (rest := rest) ⟨hx, hb, hml, hfc, hts⟩ (hC l D tys base x hx2 hty) ⟨callB_of (Ts := WT) na hts (WT_good hy.1) rfl rfl rfl (hts _ hy.2.2.1) (hts _ hlk) hy.2.2.2 hR, hts _ hy.2.1⟩ ⟨blindX (fun a U g mk => TV.blind a U g mk), fun U hU hW => ⟨rfl, ⟨by rw [hU]; exact hP, va_K.moved hW.alike hK, hNW.moved hW, hSC.moved hW (by rw [hU]; exact hS)⟩, (va_T.moved hW.alike htv).kept (by rw [hU]; exact hS.2.1)⟩⟩ rfl hlen hl.1 rfl (lv_room h8) hdg hf
end STRC
theorem sJ_coder : YV yJ0_coder_7d493 "java/lang/String" cJ0_coder_7d493 1 (some .byte) 0 := ⟨w_641, w_639, w_640, w_120, rfl, by decide +kernel, by decide +kernel, by decide +kernel⟩
theorem sJ_length : YV yJ0_length_8abf5 "java/lang/String" cJ0_length_8abf5 1 (some .int) 0 := ⟨w_637, w_635, w_636, w_120, rfl, by decide +kernel, by decide +kernel, by decide +kernel⟩
theorem sJ_isLatin1 : YV yJ0_isLatin1_aae02 "java/lang/String" cJ0_isLatin1_aae02 1 (some .boolean) 0 := ⟨w_651, w_649, w_650, w_120, rfl, by decide +kernel, by decide +kernel, by decide +kernel⟩
theorem sJ_charAt : YV yJ0_charAt_5068e "java/lang/String" cJ0_charAt_5068e 2 (some .char) 1 := ⟨w_647, w_645, w_646, w_120, rfl, by decide +kernel, by decide +kernel, by decide +kernel⟩
theorem sJ_pci : YS yJ3_checkIndex_8e157 cJ3_checkIndex_8e157 3 (some .int) 3 := ⟨w_662, w_661, w_122, by decide +kernel, by decide +kernel, by decide +kernel⟩
theorem sJ_sci : YS yJ0_checkIndex_df160 cJ0_checkIndex_df160 2 none 2 := ⟨w_657, w_656, w_120, by decide +kernel, by decide +kernel, by decide +kernel⟩
theorem sJ_lch : YS yJ1_charAt_3b067 cJ1_charAt_3b067 2 (some .char) 2 := ⟨w_654, w_653, w_121, by decide +kernel, by decide +kernel, by decide +kernel⟩
set_option maxRecDepth 100000 in
theorem ctJ_coder (l : Launch) (D : va_G) (tys : Tys) (base : Nat) (h : AH) (a : Nat) : CtX (SQ a) l D tys base yJ0_coder_7d493 cJ0_coder_7d493 1 (some .byte) 0 0 [.ref a] h (rI h) (some (0 : Int32)) := by
  refine CtX.intro (own := "java/lang/String") (L := [(0, .ref a)]) rfl (by decide) rfl (Nat.le_of_ble_eq_true rfl) fun κ hc hr hq hx _ => ?_
  refine v_gsC hc w_642 dJ0_coder_7d493_0 ?_
  refine v_eq (F' := if (1 : Int32) = 0 then none else some (0 : Int32)) (by decide) (v_if_eq hc 13 dJ0_coder_7d493_3 rfl v_none ?_)
  refine v_aload_n (i := 0) hc 0 rfl dJ0_coder_7d493_6 rfl ?_
  refine v_scod hc hx w_1683 dJ0_coder_7d493_7 ?_
  refine v_goto hc 14 dJ0_coder_7d493_10 rfl ?_
  exact v_iret hc hq rfl rfl (Nat.le_of_ble_eq_true rfl) (Nat.le_of_ble_eq_true rfl) rfl dJ0_coder_7d493_14
set_option maxRecDepth 100000 in
theorem ctJ_length (l : Launch) (D : va_G) (tys : Tys) (base : Nat) (h : AH) (a : Nat) : CtX (SQ a) l D tys base yJ0_length_8abf5 cJ0_length_8abf5 1 (some .int) 1 20 [.ref a] h (rI h) (some (110 : Int32)) := by
  refine CtX.intro (own := "java/lang/String") (L := [(0, .ref a)]) rfl (by decide) rfl (Nat.le_of_ble_eq_true rfl) fun κ hc hr hq hx _ => ?_
  refine v_aload_n (i := 0) hc 0 rfl dJ0_length_8abf5_0 rfl ?_
  refine v_sval hc hx w_1682 dJ0_length_8abf5_1 fun v hv => ?_
  refine v_tvl hc hv dJ0_length_8abf5_4 ?_
  refine v_aload_n (i := 0) hc 0 rfl dJ0_length_8abf5_5 rfl ?_
  refine v_eq (F' := (some (0 : Int32)).bind fun x => some ((110 : Int32) >>> (x &&& 31))) (by decide) ?_
  refine v_cI hc (m_VX (As := []) (b := a) (rest := [.int (110 : Int32)]) 0 hc hr (fun l D tys base => ctJ_coder l D tys base h a) hx sJ_coder w_638 rfl ⟨Nat.le_of_ble_eq_true rfl, Nat.le_of_ble_eq_true rfl⟩ ⟨Nat.le_of_ble_eq_true rfl, Nat.le_of_ble_eq_true rfl⟩ (Nat.le_of_ble_eq_true rfl) dJ0_length_8abf5_6) fun x => ?_
  refine v_ishr hc dJ0_length_8abf5_9 ?_
  exact v_iret hc hq rfl rfl (Nat.le_of_ble_eq_true rfl) (Nat.le_of_ble_eq_true rfl) rfl dJ0_length_8abf5_10
set_option maxRecDepth 100000 in
theorem ctJ_isLatin1 (l : Launch) (D : va_G) (tys : Tys) (base : Nat) (h : AH) (a : Nat) : CtX (SQ a) l D tys base yJ0_isLatin1_aae02 cJ0_isLatin1_aae02 1 (some .boolean) 0 0 [.ref a] h (rB h) (some true) := by
  refine CtX.intro (own := "java/lang/String") (L := [(0, .ref a)]) rfl (by decide) rfl (Nat.le_of_ble_eq_true rfl) fun κ hc hr hq hx _ => ?_
  refine v_gsC hc w_642 dJ0_isLatin1_aae02_0 ?_
  refine v_eq (F' := if (1 : Int32) = 0 then none else some true) (by decide) (v_if_eq hc 17 dJ0_isLatin1_aae02_3 rfl v_none ?_)
  refine v_aload_n (i := 0) hc 0 rfl dJ0_isLatin1_aae02_6 rfl ?_
  refine v_scod hc hx w_1683 dJ0_isLatin1_aae02_7 ?_
  refine v_eq (F' := if (0 : Int32) = 0 then some true else none) (by decide) (v_if_ne hc 17 dJ0_isLatin1_aae02_10 rfl v_none ?_)
  refine v_iconst (x := (1 : Int32)) hc dJ0_isLatin1_aae02_13 (by decide) ?_
  refine v_goto hc 18 dJ0_isLatin1_aae02_14 rfl ?_
  exact v_iret (v := bI true) hc hq rfl (nar_b true) (Nat.le_of_ble_eq_true rfl) (Nat.le_of_ble_eq_true rfl) rfl dJ0_isLatin1_aae02_18
set_option maxRecDepth 100000 in
theorem ctJ_pci (l : Launch) (D : va_G) (tys : Tys) (base : Nat) (h : AH) (i z : Int32) (r : Option Nat) : Ct l D tys base yJ3_checkIndex_8e157 cJ3_checkIndex_8e157 3 (some .int) 0 0 0 0 [.int i, .int z, va_rf r] h (rI h) (if i < 0 then none else if i < z then some i else none) := by
  refine Ct.intro (own := "jdk/internal/util/Preconditions") (L := [(0, .int i), (1, .int z), (2, va_rf r)]) rfl (by decide) (by cases r <;> rfl) (by cases r <;> exact Nat.le_of_ble_eq_true rfl) fun κ hc hr hq hi hL => ?_
  refine v_iload_n (i := 0) hc 0 rfl dJ3_checkIndex_8e157_0 rfl ?_
  refine v_if_lt hc 9 dJ3_checkIndex_8e157_1 rfl v_none ?_
  refine v_iload_n (i := 0) hc 0 rfl dJ3_checkIndex_8e157_4 rfl ?_
  refine v_iload_n (i := 1) hc 1 rfl dJ3_checkIndex_8e157_5 rfl ?_
  refine v_icmp_lt hc 16 dJ3_checkIndex_8e157_6 rfl ?_ v_none
  refine v_iload_n (i := 0) hc 0 rfl dJ3_checkIndex_8e157_16 rfl ?_
  exact v_iret hc hq rfl rfl (Nat.le_of_ble_eq_true rfl) (Nat.le_of_ble_eq_true rfl) rfl dJ3_checkIndex_8e157_17
set_option maxRecDepth 100000 in
theorem ctJ_sci (l : Launch) (D : va_G) (tys : Tys) (base : Nat) (h : AH) (i z : Int32) : Ct l D tys base yJ0_checkIndex_df160 cJ0_checkIndex_df160 2 none 1 22 0 0 [.int i, .int z] h (rV h) (if i < 0 then none else if i < z then some () else none) := by
  refine Ct.intro (own := "java/lang/String") (L := [(0, .int i), (1, .int z)]) rfl (by decide) rfl (Nat.le_of_ble_eq_true rfl) fun κ hc hr hq hi hL => ?_
  refine v_iload_n (i := 0) hc 0 rfl dJ0_checkIndex_df160_0 rfl ?_
  refine v_iload_n (i := 1) hc 1 rfl dJ0_checkIndex_df160_1 rfl ?_
  refine v_gsF hc w_658 dJ0_checkIndex_df160_2 fun r => ?_
  refine v_eq (F' := (if i < 0 then none else if i < z then some i else none : Option Int32).bind fun _ => some ()) (by split; rfl; split <;> rfl) ?_
  refine v_cI hc (m_S' (As := [.int i, .int z, va_rf r]) (rest := []) 3 hc hr (fun l D tys base => ctJ_pci l D tys base h i z r) sJ_pci w_660 rfl ⟨Nat.le_of_ble_eq_true rfl, Nat.le_of_ble_eq_true rfl⟩ ⟨Nat.le_of_ble_eq_true rfl, Nat.le_of_ble_eq_true rfl⟩ (Nat.le_of_ble_eq_true rfl) dJ0_checkIndex_df160_5) fun x => ?_
  refine v_pop hc dJ0_checkIndex_df160_8 rfl ?_
  exact v_vret hc hq (Nat.le_of_ble_eq_true rfl) (Nat.le_of_ble_eq_true rfl) rfl dJ0_checkIndex_df160_9
def chW (i : Int32) : Option Int32 := if i < 0 then none else if i < 110 then some (((WBY.getD i.toNatClampNeg 0 &&& 255).toUInt32 % 65536).toInt32) else none
theorem chIn {i : Int32} (h1 : ¬ i < 0) (h2 : i < 110) : vp_in i 110 := by
  rw [vp_in_iff]
  rw [Int32.lt_iff_toInt_lt] at h1 h2
  exact ⟨by simpa using h1, h2⟩
theorem narC : ∀ j, j < 110 → narrow .char (.int ((WBY.getD j 0 &&& 255).toUInt32 % 65536).toInt32) = .int ((WBY.getD j 0 &&& 255).toUInt32 % 65536).toInt32 := by decide +kernel
set_option maxRecDepth 100000 in
theorem ctJ_lch (l : Launch) (D : va_G) (tys : Tys) (base : Nat) (h : AH) (v : Nat) (i : Int32) : CtX (TV base v) l D tys base yJ1_charAt_3b067 cJ1_charAt_3b067 2 (some .char) 2 43 [.ref v, .int i] h (rI h) (chW i) := by
  refine CtX.intro (own := "java/lang/StringLatin1") (L := [(0, .ref v), (1, .int i)]) rfl (by decide) rfl (Nat.le_of_ble_eq_true rfl) fun κ hc hr hq hx hB => ?_
  subst hB
  refine v_iload_n (i := 1) hc 1 rfl dJ1_charAt_3b067_0 rfl ?_
  refine v_aload_n (i := 0) hc 0 rfl dJ1_charAt_3b067_1 rfl ?_
  refine v_tvl hc hx dJ1_charAt_3b067_2 ?_
  by_cases h1 : i < 0
  · exact v_eq (F' := none) (by unfold chW; rw [if_pos h1]) v_none
  by_cases h2 : i < 110
  · have hin := chIn h1 h2
    refine v_eq (F' := (if i < 0 then none else if i < 110 then some () else none : Option Unit).bind fun _ => chW i) (by rw [if_neg h1, if_pos h2]; rfl) ?_
    refine v_call hc (m_S' (As := [.int i, .int (110 : Int32)]) (rest := []) 2 hc hr (fun l D tys base => ctJ_sci l D tys base h i 110) sJ_sci w_655 rfl ⟨Nat.le_of_ble_eq_true rfl, Nat.le_of_ble_eq_true rfl⟩ ⟨Nat.le_of_ble_eq_true rfl, Nat.le_of_ble_eq_true rfl⟩ (Nat.le_of_ble_eq_true rfl) dJ1_charAt_3b067_3) (fun _ => chW i) fun _ => ?_
    show V κ (rI h) 0 0 6 [(0, .ref v), (1, .int i)] [] h (chW i)
    refine v_aload_n (i := 0) hc 0 rfl dJ1_charAt_3b067_6 rfl ?_
    refine v_iload_n (i := 1) hc 1 rfl dJ1_charAt_3b067_7 rfl ?_
    refine v_tvb hc hx hin dJ1_charAt_3b067_8 ?_
    refine v_sipush (x := (255 : Int32)) hc dJ1_charAt_3b067_9 (by decide) ?_
    refine v_iand hc dJ1_charAt_3b067_12 ?_
    refine v_i2c hc dJ1_charAt_3b067_13 ?_
    refine v_eq (F' := some (((WBY.getD i.toNatClampNeg 0 &&& 255).toUInt32 % 65536).toInt32)) (by unfold chW; rw [if_neg h1, if_pos h2]) ?_
    exact v_iret hc hq rfl (narC _ (by have := vp_in_of hin (by decide); obtain ⟨j, hj, rfl⟩ := this; rw [nI_clamp (by omega)]; exact hj)) (Nat.le_of_ble_eq_true rfl) (Nat.le_of_ble_eq_true rfl) rfl dJ1_charAt_3b067_14
  · exact v_eq (F' := none) (by unfold chW; rw [if_neg h1, if_neg h2]) v_none
theorem chW_nar (i : Int32) : chW i = (chW i).bind fun x => if narrow .char (.int x) = .int x then some x else none := by
  unfold chW
  split
  · rfl
  · rename_i h1
    split
    · rename_i h2
      have hin := chIn h1 h2
      obtain ⟨j, hj, rfl⟩ := vp_in_of hin (by decide)
      rw [nI_clamp (by omega)]
      exact (if_pos (narC j hj)).symm
    · rfl
set_option maxRecDepth 100000 in
theorem ctJ_charAt (l : Launch) (D : va_G) (tys : Tys) (base : Nat) (h : AH) (a : Nat) (i : Int32) : CtX (SQ a) l D tys base yJ0_charAt_5068e cJ0_charAt_5068e 2 (some .char) 3 64 [.ref a, .int i] h (rI h) (chW i) := by
  refine CtX.intro (own := "java/lang/String") (L := [(0, .ref a), (1, .int i)]) rfl (by decide) rfl (Nat.le_of_ble_eq_true rfl) fun κ hc hr hq hx _ => ?_
  refine v_aload_n (i := 0) hc 0 rfl dJ0_charAt_5068e_0 rfl ?_
  refine v_eq (F' := (some true).bind fun b => if b = true then chW i else none) (by rfl) ?_
  refine v_cB hc (m_VX (As := []) (b := a) (rest := []) 0 hc hr (fun l D tys base => ctJ_isLatin1 l D tys base h a) hx sJ_isLatin1 w_648 rfl ⟨Nat.le_of_ble_eq_true rfl, Nat.le_of_ble_eq_true rfl⟩ ⟨Nat.le_of_ble_eq_true rfl, Nat.le_of_ble_eq_true rfl⟩ (Nat.le_of_ble_eq_true rfl) dJ0_charAt_5068e_1) fun b => ?_
  refine v_ifb_eq hc 16 dJ0_charAt_5068e_4 rfl v_none ?_
  refine v_aload_n (i := 0) hc 0 rfl dJ0_charAt_5068e_7 rfl ?_
  refine v_sval hc hx w_1682 dJ0_charAt_5068e_8 fun v hv => ?_
  refine v_iload_n (i := 1) hc 1 rfl dJ0_charAt_5068e_11 rfl ?_
  refine v_eq (F' := (chW i).bind fun x => if narrow .char (.int x) = .int x then some x else none) (chW_nar i) ?_
  refine v_cI hc (m_SX (As := [.ref v, .int i]) (rest := []) 2 hc hr (fun l D tys base => ctJ_lch l D tys base h v i) hv sJ_lch w_652 rfl ⟨Nat.le_of_ble_eq_true rfl, Nat.le_of_ble_eq_true rfl⟩ ⟨Nat.le_of_ble_eq_true rfl, Nat.le_of_ble_eq_true rfl⟩ (Nat.le_of_ble_eq_true rfl) dJ0_charAt_5068e_12) fun x => ?_
  refine v_ite (fun hn => ?_) (fun _ => v_none)
  exact v_iret hc hq rfl hn (Nat.le_of_ble_eq_true rfl) (Nat.le_of_ble_eq_true rfl) rfl dJ0_charAt_5068e_15
section STRV
variable {β : Type} {κ : Kx} {φ : β → Option Value × AH} {cc : ByteArray} {k n pc : Nat} {L : List (Nat × Value)} {st : List Value} {h : AH}
theorem v_ldcS (hc : CX κ RX6 cc) {F : Option β} (hd : decode cc pc = .ok (.ldc 56, 2)) (kk : ∀ q, SQ q (KS κ) → V κ φ k n (pc + 2) L (.ref q :: st) h F) : V κ φ k n pc L st h F := by
  obtain ⟨⟨p, l, e, R, s, m, args, below, meth, c⟩, D, tys, base, nL, Q⟩ := κ
  obtain ⟨hx, hb, hml, hfc, hts, hK, hty, hbs, hlk, hNW, q, v, hq⟩ := hc
  intro x hv H locs ls hP hS hl
  exact va_ldcS hx hb hfc hq.1 hd (kk q hq.1 x hv H locs ls hP hS hl)
/-- WORDS.length() -/
theorem v_strlen (hc : CX κ RX6 cc) {rm : Room} (hr : RX κ rm) (hfr : 2 ≤ rm.frames) (hlo : 40 ≤ rm.locals) (hkc : k ≤ rm.cells) (hkn : n ≤ rm.slots) (h8 : (st.map fun v => v.category).sum ≤ 8) {F : Option β} (hd : decode cc pc = .ok (.ldc 56, 2)) (hd2 : decode cc (pc + 2) = .ok (.invokevirtual 58, 3)) (kk : V κ φ k n (pc + 2 + 3) L (.int (110 : Int32) :: st) h F) : V κ φ k n pc L st h F := by
  refine v_ldcS hc hd fun q hq => ?_
  refine v_eq (F' := (some (110 : Int32)).bind fun x => if x = 110 then F else none) (by rfl) ?_
  refine v_cI hc (m_VX (As := []) (b := q) (rest := st) 0 hc hr (fun l D tys base => ctJ_length l D tys base h q) hq sJ_length w_634 rfl ⟨hfr, by omega⟩ ⟨hkc, hkn⟩ h8 hd2) fun x => ?_
  refine v_ite (fun hx => ?_) (fun _ => v_none)
  subst hx
  exact kk
/-- WORDS.charAt(i) -/
theorem v_strchr (hc : CX κ RX6 cc) {rm : Room} (hr : RX κ rm) (hfr : 4 ≤ rm.frames) (hlo : 85 ≤ rm.locals) (hkc : k ≤ rm.cells) (hkn : n ≤ rm.slots) (h8 : (st.map fun v => v.category).sum ≤ 8) {i : Nat} {x : Int32} {K : Int32 → Option β} (j : Nat) (hk : L[j]? = some (i, .int x)) (hd : decode cc pc = .ok (.ldc 56, 2)) (hd1 : decode cc (pc + 2) = .ok (.iload i, 2)) (hd2 : decode cc (pc + 2 + 2) = .ok (.invokevirtual 64, 3)) (kk : ∀ z, V κ φ k n (pc + 2 + 2 + 3) L (.int z :: st) h (K z)) : V κ φ k n pc L st h ((chW x).bind K) := by
  refine v_ldcS hc hd fun q hq => ?_
  refine v_iload (i := i) hc j hk hd1 ?_
  exact v_cI hc (m_VX (As := [.int x]) (b := q) (rest := st) 1 hc hr (fun l D tys base => ctJ_charAt l D tys base h q x) hq sJ_charAt w_644 rfl ⟨hfr, by omega⟩ ⟨hkc, hkn⟩ h8 hd2) kk
end STRV
