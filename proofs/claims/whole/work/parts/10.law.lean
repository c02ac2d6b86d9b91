/-! THE CLAIM OUT OF ONE WALK OF THE LAW'S BODY. Your part is whole_start (and what it stands on); all else here is the same for every law, but numbers. -/
def R_law : String := "SafeVolumesLaw"
def lw_P (b : Addr) (xs : List Int32) (args : Array Value) (s : State) : Prop := args = #[.ref b] ∧ s.IntsAt b xs ∧ xs.length ≤ 4608 ∧ (Jvm.Cond.and given_1 narrow_1).before args s = true
def lw_Q (_ : Array Value) (s : State) (o : Outcome) (t : State) : Prop := o = .returned (some (.int 1)) ∧ Framed s o t [] 600000 7302250
def lw_Z (below : List Frame) (a : Array Value) (s : State) : State → Prop := fun t => ∃ o, t.status = .running ∧ Ended t below o ∧ lw_Q a s o t
/-- the law's own end, with 1 on the stack, nothing written that was there before, its room as the claim has it -/
theorem lw_ret {p : Program} {l : Launch} {e : Env} {s : State} {m : MethodId} {below : List Frame} {meth : Method} {c : Code} {b : Nat} (hx : p.tables.exec = Jvm.exec) (hb : c.code = code) (hr : meth.sig.returnType = ret) (hlocks : meth.locks = false) {pc : Nat} {H : Heap} {ls : Array Slot} (hdg : decode code pc = .ok (.ireturn, 1)) : W p l e room_1 s m #[Value.ref b] below meth c H [] 600000 7302250 (lw_Z below #[Value.ref b] s) (F0 m pc ls [.int 1]) := by
  intro T hT X
  obtain ⟨fs, hret, hrun, hended, hW, hframe⟩ := X.leave (v := some (.int 1)) (hlocks := hlocks) (fun h => by rw [hr] at h; cases h)
  have hmeth' : T.vm.method? m = some meth := X.method'
  refine ⟨T.setFrames fs, ?_, .returned (some (.int 1)), hrun, hended, rfl, ⟨_, rfl⟩, hW, hframe⟩
  jvm_step X.here [X.here.top, hx, hb, hdg, hmeth', hr, ret, narrow_b1]
  (try refine ⟨rfl, ?_⟩); (try refine ⟨rfl, ?_⟩)
  first | (intro acts; rw [hret _ acts rfl rfl rfl]) | rw [hret _ _ rfl rfl rfl]
  exact Steps.refl _
/-- what holds at the law's entry: the machine, the code, the tables' words (any of lw_tbl by 'hts w (by decide +kernel)'), the script of L ints xs at the cell b, what the Statement gives of the start (any of its parts by flat_of_before) -/
def lw_At (p : Program) (s : State) (m : MethodId) (meth : Method) (c : Code) (b L : Nat) (xs : Nat → Int32) : Prop :=
  p.tables.exec = Jvm.exec ∧ c.code = code ∧ meth.sig.returnType = ret ∧ c.maxLocals = 4 ∧ s.vm.findClass R_law = some m.cls ∧ (∀ w ∈ lw_tbl, w.before #[Value.ref b] s = true) ∧ va_X b L xs s s.heap ∧ b < s.heap.size ∧ meth.locks = false ∧ (Jvm.Cond.and given_1 narrow_1).before #[Value.ref b] s = true
/-! the law's own rows: the script's reads, its end -/
def sx (xs : Nat → Int32) (N : Nat) (i : Int32) : Option Int32 := (ix i N).bind fun j => some (xs j)
def SX (κ : Kx) (b N : Nat) (xs : Nat → Int32) : Prop := va_X b N xs (KS κ) (KS κ).heap ∧ b < (KS κ).heap.size ∧ ¬ KB κ ≤ b
def LQ (b : Nat) (κ : Kx) : Prop :=
  match κ with
  | ((_, _, _, _, s, _, args, below, meth, _), (_, _, base, _, Q)) => args = #[.ref b] ∧ meth.sig.returnType = ret ∧ base = s.heap.size ∧ Q = fun r _ t => r = some (.int 1) → lw_Z below #[.ref b] s t
section LAWR
variable {β : Type} {κ : Kx} {φ : β → Option Value × AH} {own : String} {cc : ByteArray} {k n pc : Nat} {L : List (Nat × Value)} {st : List Value} {h : AH} {b N : Nat} {xs : Nat → Int32}
theorem v_sld (hc : CX κ own cc) (hX : SX κ b N xs) {i : Int32} {K : Int32 → Option β} (hd : decode cc pc = .ok (.iaload, 1)) (kk : ∀ v, V κ φ k n (pc + 1) L (.int v :: st) h (K v)) : V κ φ k n pc L (.int i :: .ref b :: st) h ((sx xs N i).bind K) := by
  obtain ⟨⟨p, l, e, R, s, m, args, below, meth, c⟩, D, tys, base, nL, Q⟩ := κ
  obtain ⟨hx, hb, hml, hfc, hts, hK, hty, hbs, hlk, hNW, hSC⟩ := hc
  intro x hv H locs ls hP hS hl
  obtain ⟨w, hv1, hv2⟩ := bd hv
  obtain ⟨j, hv3, hv4⟩ := bd hv1
  cases hv4
  obtain ⟨hin, rfl⟩ := ix_of hv3
  exact va_sld hx hb hX.1 hX.2.1 hX.2.2 hS hin hd (kk _ x hv2 H locs ls hP hS hl)
theorem v_slen (hc : CX κ own cc) (hX : SX κ b N xs) {F : Option β} (hd : decode cc pc = .ok (.arraylength, 1)) (kk : V κ φ k n (pc + 1) L (.int (Int32.ofNat N) :: st) h F) : V κ φ k n pc L (.ref b :: st) h F := by
  obtain ⟨⟨p, l, e, R, s, m, args, below, meth, c⟩, D, tys, base, nL, Q⟩ := κ
  obtain ⟨hx, hb, hml, hfc, hts, hK, hty, hbs, hlk, hNW, hSC⟩ := hc
  intro x hv H locs ls hP hS hl
  exact va_slen hx hb hX.1 hX.2.1 hX.2.2 hS hd (kk x hv H locs ls hP hS hl)
theorem v_lawret1 (hc : CX κ own code) (hr : RX κ room_1) (hq : LQ b κ) (hk : k ≤ 600000) (hm : n ≤ 7302250) (hd : decode code pc = .ok (.ireturn, 1)) : V κ wB k n pc L [.int (1 : Int32)] h (some (true, h)) := by
  obtain ⟨⟨p, l, e, R, s, m, args, below, meth, c⟩, D, tys, base, nL, Q⟩ := κ
  obtain ⟨hx, hb, hml, hfc, hts, hK, hty, hbs, hlk, hNW, hSC⟩ := hc
  obtain ⟨ha, hrt, hbase, hQ⟩ := hq
  have hr : R = room_1 := hr
  subst hr ha hbase hQ
  intro x hv H locs ls hP hS hl
  refine va_forget hS.2.2 (W.widen hk hm ?_)
  intro T hT X
  obtain ⟨t, a1, b1⟩ := lw_ret (ls := ls) hx hb hrt hlk hd T hT X
  exact ⟨t, a1, fun _ => b1⟩
theorem v_lawret0 (hc : CX κ own code) (hr : RX κ room_1) (hq : LQ b κ) (hk : k ≤ 600000) (hm : n ≤ 7302250) (hd : decode code pc = .ok (.ireturn, 1)) : V κ wB k n pc L [.int (0 : Int32)] h (some (false, h)) := by
  obtain ⟨⟨p, l, e, R, s, m, args, below, meth, c⟩, D, tys, base, nL, Q⟩ := κ
  obtain ⟨ha, hrt, hbase, hQ⟩ := hq
  subst hQ
  intro x hv H locs ls hP hS hl
  cases hv
  intro T hT X
  refine ⟨_, Steps.refl _, fun hh => ?_⟩
  exact absurd hh (by simp [wB, bI])
end LAWR
def fL_law_18 (xs : Nat → Int32) (N : Nat) (v1 : Nat) (v2 : Nat) : Nat → AH → Int32 → Option (Bool × AH)
  | 0, _, _ => none
  | n + 1, h, v3 => (if ((Int32.ofNat N) - (9 : Int32)) < v3 then some (true, h) else (sx xs N v3).bind fun x29 => (if (x29 &&& (63 : Int32)) = (0 : Int32) then (sx xs N (v3 + (1 : Int32))).bind fun x193 => (f8_clock h v1 x193).bind fun x194 => (sx xs N (v3 + (1 : Int32))).bind fun x202 => (f9_clock x194.2 v2 x202).bind fun x203 => (if (bI x194.1) = (bI x203.1) then (some (v3 + (9 : Int32))).bind fun x1430 => fL_law_18 xs N v1 v2 n x203.2 x1430 else some (false, x203.2)) else (if (x29 &&& (63 : Int32)) = (1 : Int32) then (sx xs N (v3 + (1 : Int32))).bind fun x216 => (sx xs N (v3 + (2 : Int32))).bind fun x221 => (f8_stuff h v1 x216 x221).bind fun x222 => (sx xs N (v3 + (1 : Int32))).bind fun x230 => (sx xs N (v3 + (2 : Int32))).bind fun x235 => (f9_stuff x222.2 v2 x230 x235).bind fun x236 => (if x222.1 = x236.1 then (some (v3 + (9 : Int32))).bind fun x1430 => fL_law_18 xs N v1 v2 n x236.2 x1430 else some (false, x236.2)) else (if (x29 &&& (63 : Int32)) = (2 : Int32) then (sx xs N (v3 + (1 : Int32))).bind fun x249 => (sx xs N (v3 + (2 : Int32))).bind fun x254 => (f8_truth h v1 x249 x254).bind fun x255 => (sx xs N (v3 + (1 : Int32))).bind fun x263 => (sx xs N (v3 + (2 : Int32))).bind fun x268 => (f9_truth x255.2 v2 x263 x268).bind fun x269 => (if x255.1 = x269.1 then (some (v3 + (9 : Int32))).bind fun x1430 => fL_law_18 xs N v1 v2 n x269.2 x1430 else some (false, x269.2)) else (if (x29 &&& (63 : Int32)) = (3 : Int32) then (sx xs N (v3 + (1 : Int32))).bind fun x282 => (sx xs N (v3 + (2 : Int32))).bind fun x287 => (sx xs N (v3 + (3 : Int32))).bind fun x292 => (f8_fact h v1 x282 x287 x292).bind fun x293 => (sx xs N (v3 + (1 : Int32))).bind fun x301 => (sx xs N (v3 + (2 : Int32))).bind fun x306 => (sx xs N (v3 + (3 : Int32))).bind fun x311 => (f9_fact x293.2 v2 x301 x306 x311).bind fun x312 => (if x293.1 = x312.1 then (some (v3 + (9 : Int32))).bind fun x1430 => fL_law_18 xs N v1 v2 n x312.2 x1430 else some (false, x312.2)) else (if (x29 &&& (63 : Int32)) = (4 : Int32) then (sx xs N (v3 + (1 : Int32))).bind fun x325 => (sx xs N (v3 + (2 : Int32))).bind fun x330 => (sx xs N (v3 + (3 : Int32))).bind fun x335 => (sx xs N (v3 + (4 : Int32))).bind fun x340 => (sx xs N (v3 + (5 : Int32))).bind fun x345 => (sx xs N (v3 + (6 : Int32))).bind fun x351 => (sx xs N (v3 + (7 : Int32))).bind fun x357 => (sx xs N (v3 + (8 : Int32))).bind fun x363 => (f8_piece h v1 x325 x330 x335 x340 x345 x351 x357 x363).bind fun x364 => (sx xs N (v3 + (1 : Int32))).bind fun x372 => (sx xs N (v3 + (2 : Int32))).bind fun x377 => (sx xs N (v3 + (3 : Int32))).bind fun x382 => (sx xs N (v3 + (4 : Int32))).bind fun x387 => (sx xs N (v3 + (5 : Int32))).bind fun x392 => (sx xs N (v3 + (6 : Int32))).bind fun x398 => (sx xs N (v3 + (7 : Int32))).bind fun x404 => (sx xs N (v3 + (8 : Int32))).bind fun x410 => (f9_piece x364.2 v2 x372 x377 x382 x387 x392 x398 x404 x410).bind fun x411 => (if x364.1 = x411.1 then (some (v3 + (9 : Int32))).bind fun x1430 => fL_law_18 xs N v1 v2 n x411.2 x1430 else some (false, x411.2)) else (if (x29 &&& (63 : Int32)) = (5 : Int32) then (sx xs N (v3 + (1 : Int32))).bind fun x424 => (sx xs N (v3 + (2 : Int32))).bind fun x429 => (sx xs N (v3 + (3 : Int32))).bind fun x434 => (f8_page h v1 x424 x429 x434).bind fun x435 => (sx xs N (v3 + (1 : Int32))).bind fun x443 => (sx xs N (v3 + (2 : Int32))).bind fun x448 => (sx xs N (v3 + (3 : Int32))).bind fun x453 => (f9_page x435.2 v2 x443 x448 x453).bind fun x454 => (if x435.1 = x454.1 then (some (v3 + (9 : Int32))).bind fun x1430 => fL_law_18 xs N v1 v2 n x454.2 x1430 else some (false, x454.2)) else (if (x29 &&& (63 : Int32)) = (6 : Int32) then (sx xs N (v3 + (1 : Int32))).bind fun x467 => (sx xs N (v3 + (2 : Int32))).bind fun x472 => (f8_of h v1 x467 x472).bind fun x473 => (sx xs N (v3 + (1 : Int32))).bind fun x481 => (sx xs N (v3 + (2 : Int32))).bind fun x486 => (f9_of h v2 x481 x486).bind fun x487 => (if x473 = x487 then (some (v3 + (9 : Int32))).bind fun x1430 => fL_law_18 xs N v1 v2 n h x1430 else some (false, h)) else (if (x29 &&& (63 : Int32)) = (7 : Int32) then (sx xs N (v3 + (1 : Int32))).bind fun x500 => (sx xs N (v3 + (2 : Int32))).bind fun x505 => (f8_shared h v1 x500 x505).bind fun x506 => (sx xs N (v3 + (1 : Int32))).bind fun x514 => (sx xs N (v3 + (2 : Int32))).bind fun x519 => (f9_shared h v2 x514 x519).bind fun x520 => (if x506 = x520 then (some (v3 + (9 : Int32))).bind fun x1430 => fL_law_18 xs N v1 v2 n h x1430 else some (false, h)) else (if (x29 &&& (63 : Int32)) = (8 : Int32) then (sx xs N (v3 + (1 : Int32))).bind fun x533 => (sx xs N (v3 + (2 : Int32))).bind fun x538 => (sx xs N (v3 + (3 : Int32))).bind fun x543 => (sx xs N (v3 + (4 : Int32))).bind fun x548 => (sx xs N (v3 + (5 : Int32))).bind fun x553 => (f8_feed h v1 x533 x538 x543 x548 x553).bind fun x554 => (sx xs N (v3 + (1 : Int32))).bind fun x562 => (sx xs N (v3 + (2 : Int32))).bind fun x567 => (sx xs N (v3 + (3 : Int32))).bind fun x572 => (sx xs N (v3 + (4 : Int32))).bind fun x577 => (sx xs N (v3 + (5 : Int32))).bind fun x582 => (f9_feed x554.2 v2 x562 x567 x572 x577 x582).bind fun x583 => (if x554.1 = x583.1 then (some (v3 + (9 : Int32))).bind fun x1430 => fL_law_18 xs N v1 v2 n x583.2 x1430 else some (false, x583.2)) else (if (x29 &&& (63 : Int32)) = (9 : Int32) then (sx xs N (v3 + (1 : Int32))).bind fun x596 => (f8_end h v1 x596).bind fun x597 => (sx xs N (v3 + (1 : Int32))).bind fun x605 => (f9_end x597.2 v2 x605).bind fun x606 => (if x597.1 = x606.1 then (some (v3 + (9 : Int32))).bind fun x1430 => fL_law_18 xs N v1 v2 n x606.2 x1430 else some (false, x606.2)) else (if (x29 &&& (63 : Int32)) = (10 : Int32) then (f8_reader h v1).bind fun x615 => (f9_reader x615.2 v2).bind fun x619 => (if x615.1 = x619.1 then (some (v3 + (9 : Int32))).bind fun x1430 => fL_law_18 xs N v1 v2 n x619.2 x1430 else some (false, x619.2)) else (if (x29 &&& (63 : Int32)) = (11 : Int32) then (f8_maker h v1).bind fun x628 => (f9_maker x628.2 v2).bind fun x632 => (if x628.1 = x632.1 then (some (v3 + (9 : Int32))).bind fun x1430 => fL_law_18 xs N v1 v2 n x632.2 x1430 else some (false, x632.2)) else (if (x29 &&& (63 : Int32)) = (12 : Int32) then (sx xs N (v3 + (1 : Int32))).bind fun x645 => (sx xs N (v3 + (2 : Int32))).bind fun x650 => (sx xs N (v3 + (3 : Int32))).bind fun x655 => (f8_chance h v1 x645 x650 x655).bind fun x656 => (sx xs N (v3 + (1 : Int32))).bind fun x664 => (sx xs N (v3 + (2 : Int32))).bind fun x669 => (sx xs N (v3 + (3 : Int32))).bind fun x674 => (f9_chance x656.2 v2 x664 x669 x674).bind fun x675 => (if x656.1 = x675.1 then (some (v3 + (9 : Int32))).bind fun x1430 => fL_law_18 xs N v1 v2 n x675.2 x1430 else some (false, x675.2)) else (if (x29 &&& (63 : Int32)) = (13 : Int32) then (sx xs N (v3 + (1 : Int32))).bind fun x688 => (sx xs N (v3 + (2 : Int32))).bind fun x693 => (sx xs N (v3 + (3 : Int32))).bind fun x698 => (sx xs N (v3 + (4 : Int32))).bind fun x703 => (f8_tells h v1 x688 x693 x698 x703).bind fun x704 => (sx xs N (v3 + (1 : Int32))).bind fun x712 => (sx xs N (v3 + (2 : Int32))).bind fun x717 => (sx xs N (v3 + (3 : Int32))).bind fun x722 => (sx xs N (v3 + (4 : Int32))).bind fun x727 => (f9_tells x704.2 v2 x712 x717 x722 x727).bind fun x728 => (if x704.1 = x728.1 then (some (v3 + (9 : Int32))).bind fun x1430 => fL_law_18 xs N v1 v2 n x728.2 x1430 else some (false, x728.2)) else (if (x29 &&& (63 : Int32)) = (14 : Int32) then (sx xs N (v3 + (1 : Int32))).bind fun x741 => (sx xs N (v3 + (2 : Int32))).bind fun x746 => (sx xs N (v3 + (3 : Int32))).bind fun x751 => (sx xs N (v3 + (4 : Int32))).bind fun x756 => (f8_look h v1 x741 x746 x751 x756).bind fun x757 => (sx xs N (v3 + (1 : Int32))).bind fun x765 => (sx xs N (v3 + (2 : Int32))).bind fun x770 => (sx xs N (v3 + (3 : Int32))).bind fun x775 => (sx xs N (v3 + (4 : Int32))).bind fun x780 => (f9_look x757.2 v2 x765 x770 x775 x780).bind fun x781 => (if x757.1 = x781.1 then (some (v3 + (9 : Int32))).bind fun x1430 => fL_law_18 xs N v1 v2 n x781.2 x1430 else some (false, x781.2)) else (if (x29 &&& (63 : Int32)) = (15 : Int32) then (sx xs N (v3 + (1 : Int32))).bind fun x794 => (sx xs N (v3 + (2 : Int32))).bind fun x799 => (f8_test h v1 x794 x799).bind fun x800 => (sx xs N (v3 + (1 : Int32))).bind fun x808 => (sx xs N (v3 + (2 : Int32))).bind fun x813 => (f9_test x800.2 v2 x808 x813).bind fun x814 => (if x800.1 = x814.1 then (some (v3 + (9 : Int32))).bind fun x1430 => fL_law_18 xs N v1 v2 n x814.2 x1430 else some (false, x814.2)) else (if (x29 &&& (63 : Int32)) = (16 : Int32) then (sx xs N (v3 + (1 : Int32))).bind fun x827 => (sx xs N (v3 + (2 : Int32))).bind fun x832 => (f8_keep h v1 x827 x832).bind fun x833 => (sx xs N (v3 + (1 : Int32))).bind fun x841 => (sx xs N (v3 + (2 : Int32))).bind fun x846 => (f9_keep x833.2 v2 x841 x846).bind fun x847 => (if x833.1 = x847.1 then (some (v3 + (9 : Int32))).bind fun x1430 => fL_law_18 xs N v1 v2 n x847.2 x1430 else some (false, x847.2)) else (if (x29 &&& (63 : Int32)) = (17 : Int32) then (sx xs N (v3 + (1 : Int32))).bind fun x860 => (sx xs N (v3 + (2 : Int32))).bind fun x865 => (f8_stand h v1 x860 x865).bind fun x866 => (sx xs N (v3 + (1 : Int32))).bind fun x874 => (sx xs N (v3 + (2 : Int32))).bind fun x879 => (f9_stand h v2 x874 x879).bind fun x880 => (if x866 = x880 then (some (v3 + (9 : Int32))).bind fun x1430 => fL_law_18 xs N v1 v2 n h x1430 else some (false, h)) else (if (x29 &&& (63 : Int32)) = (18 : Int32) then (sx xs N (v3 + (1 : Int32))).bind fun x893 => (f8_cost h v1 x893).bind fun x894 => (sx xs N (v3 + (1 : Int32))).bind fun x902 => (f9_cost h v2 x902).bind fun x903 => (if x894 = x903 then (some (v3 + (9 : Int32))).bind fun x1430 => fL_law_18 xs N v1 v2 n h x1430 else some (false, h)) else (if (x29 &&& (63 : Int32)) = (19 : Int32) then (sx xs N (v3 + (1 : Int32))).bind fun x916 => (f8_cheapest h v1 x916).bind fun x917 => (sx xs N (v3 + (1 : Int32))).bind fun x925 => (f9_cheapest h v2 x925).bind fun x926 => (if x917 = x926 then (some (v3 + (9 : Int32))).bind fun x1430 => fL_law_18 xs N v1 v2 n h x1430 else some (false, h)) else (if (x29 &&& (63 : Int32)) = (20 : Int32) then (sx xs N (v3 + (1 : Int32))).bind fun x939 => (f8_likely h v1 x939).bind fun x940 => (sx xs N (v3 + (1 : Int32))).bind fun x948 => (f9_likely h v2 x948).bind fun x949 => (if x940 = x949 then (some (v3 + (9 : Int32))).bind fun x1430 => fL_law_18 xs N v1 v2 n h x1430 else some (false, h)) else (if (x29 &&& (63 : Int32)) = (21 : Int32) then (sx xs N (v3 + (1 : Int32))).bind fun x962 => (sx xs N (v3 + (2 : Int32))).bind fun x967 => (f8_kin h v1 x962 x967).bind fun x968 => (sx xs N (v3 + (1 : Int32))).bind fun x976 => (sx xs N (v3 + (2 : Int32))).bind fun x981 => (f9_kin h v2 x976 x981).bind fun x982 => (if x968 = x982 then (some (v3 + (9 : Int32))).bind fun x1430 => fL_law_18 xs N v1 v2 n h x1430 else some (false, h)) else (if (x29 &&& (63 : Int32)) = (22 : Int32) then (sx xs N (v3 + (1 : Int32))).bind fun x995 => (f8_could h v1 x995).bind fun x996 => (sx xs N (v3 + (1 : Int32))).bind fun x1004 => (f9_could h v2 x1004).bind fun x1005 => (if x996 = x1005 then (some (v3 + (9 : Int32))).bind fun x1430 => fL_law_18 xs N v1 v2 n h x1430 else some (false, h)) else (if (x29 &&& (63 : Int32)) = (23 : Int32) then (sx xs N (v3 + (1 : Int32))).bind fun x1018 => (sx xs N (v3 + (2 : Int32))).bind fun x1023 => (f8_outrun h v1 x1018 x1023).bind fun x1024 => (sx xs N (v3 + (1 : Int32))).bind fun x1032 => (sx xs N (v3 + (2 : Int32))).bind fun x1037 => (f9_outrun h v2 x1032 x1037).bind fun x1038 => (if x1024 = x1038 then (some (v3 + (9 : Int32))).bind fun x1430 => fL_law_18 xs N v1 v2 n h x1430 else some (false, h)) else (if (x29 &&& (63 : Int32)) = (24 : Int32) then (f8_grows h v1).bind fun x1047 => (f9_grows h v2).bind fun x1051 => (if x1047 = x1051.1 then (some (v3 + (9 : Int32))).bind fun x1430 => fL_law_18 xs N v1 v2 n x1051.2 x1430 else some (false, x1051.2)) else (if (x29 &&& (63 : Int32)) = (25 : Int32) then (sx xs N (v3 + (1 : Int32))).bind fun x1064 => (sx xs N (v3 + (2 : Int32))).bind fun x1069 => (sx xs N (v3 + (3 : Int32))).bind fun x1074 => (sx xs N (v3 + (4 : Int32))).bind fun x1079 => (sx xs N (v3 + (5 : Int32))).bind fun x1084 => (f8_make h v1 x1064 x1069 x1074 x1079 x1084).bind fun x1085 => (sx xs N (v3 + (1 : Int32))).bind fun x1093 => (sx xs N (v3 + (2 : Int32))).bind fun x1098 => (sx xs N (v3 + (3 : Int32))).bind fun x1103 => (sx xs N (v3 + (4 : Int32))).bind fun x1108 => (sx xs N (v3 + (5 : Int32))).bind fun x1113 => (f9_make x1085.2 v2 x1093 x1098 x1103 x1108 x1113).bind fun x1114 => (if x1085.1 = x1114.1 then (some (v3 + (9 : Int32))).bind fun x1430 => fL_law_18 xs N v1 v2 n x1114.2 x1430 else some (false, x1114.2)) else (if (x29 &&& (63 : Int32)) = (26 : Int32) then (sx xs N (v3 + (1 : Int32))).bind fun x1127 => (sx xs N (v3 + (2 : Int32))).bind fun x1132 => (sx xs N (v3 + (3 : Int32))).bind fun x1137 => (sx xs N (v3 + (4 : Int32))).bind fun x1142 => (f8_soonest h v1 x1127 x1132 x1137 x1142).bind fun x1143 => (sx xs N (v3 + (1 : Int32))).bind fun x1151 => (sx xs N (v3 + (2 : Int32))).bind fun x1156 => (sx xs N (v3 + (3 : Int32))).bind fun x1161 => (sx xs N (v3 + (4 : Int32))).bind fun x1166 => (f9_soonest x1143.2 v2 x1151 x1156 x1161 x1166).bind fun x1167 => (if x1143.1 = x1167.1 then (some (v3 + (9 : Int32))).bind fun x1430 => fL_law_18 xs N v1 v2 n x1167.2 x1430 else some (false, x1167.2)) else (if (x29 &&& (63 : Int32)) = (27 : Int32) then (sx xs N (v3 + (1 : Int32))).bind fun x1181 => (sx xs N (v3 + (2 : Int32))).bind fun x1186 => (sx xs N (v3 + (3 : Int32))).bind fun x1191 => (f8_surest h v1 x1181 x1186 x1191).bind fun x1192 => (sx xs N (v3 + (1 : Int32))).bind fun x1200 => (sx xs N (v3 + (2 : Int32))).bind fun x1205 => (sx xs N (v3 + (3 : Int32))).bind fun x1210 => (f9_surest x1192.2 v2 x1200 x1205 x1210).bind fun x1211 => (if x1192.1 = x1211.1 then (some (v3 + (9 : Int32))).bind fun x1430 => fL_law_18 xs N v1 v2 n x1211.2 x1430 else some (false, x1211.2)) else (if (x29 &&& (63 : Int32)) = (28 : Int32) then (sx xs N (v3 + (1 : Int32))).bind fun x1224 => (sx xs N (v3 + (2 : Int32))).bind fun x1229 => (sx xs N (v3 + (3 : Int32))).bind fun x1234 => (sx xs N (v3 + (4 : Int32))).bind fun x1239 => (f8_person h v1 x1224 x1229 x1234 x1239).bind fun x1240 => (sx xs N (v3 + (1 : Int32))).bind fun x1248 => (sx xs N (v3 + (2 : Int32))).bind fun x1253 => (sx xs N (v3 + (3 : Int32))).bind fun x1258 => (sx xs N (v3 + (4 : Int32))).bind fun x1263 => (f9_person x1240.2 v2 x1248 x1253 x1258 x1263).bind fun x1264 => (if x1240.1 = x1264.1 then (some (v3 + (9 : Int32))).bind fun x1430 => fL_law_18 xs N v1 v2 n x1264.2 x1430 else some (false, x1264.2)) else (if (x29 &&& (63 : Int32)) = (29 : Int32) then (sx xs N (v3 + (1 : Int32))).bind fun x1277 => (f8_ask h v1 x1277).bind fun x1278 => (sx xs N (v3 + (1 : Int32))).bind fun x1286 => (f9_ask x1278.2 v2 x1286).bind fun x1287 => (if (bI x1278.1) = (bI x1287.1) then (some (v3 + (9 : Int32))).bind fun x1430 => fL_law_18 xs N v1 v2 n x1287.2 x1430 else some (false, x1287.2)) else (if (x29 &&& (63 : Int32)) = (30 : Int32) then (sx xs N (v3 + (1 : Int32))).bind fun x1300 => (sx xs N (v3 + (2 : Int32))).bind fun x1305 => (f8_unasked h v1 x1300 x1305).bind fun x1306 => (sx xs N (v3 + (1 : Int32))).bind fun x1314 => (sx xs N (v3 + (2 : Int32))).bind fun x1319 => (f9_unasked h v2 x1314 x1319).bind fun x1320 => (if x1306 = x1320 then (some (v3 + (9 : Int32))).bind fun x1430 => fL_law_18 xs N v1 v2 n h x1430 else some (false, h)) else (if (x29 &&& (63 : Int32)) = (31 : Int32) then (sx xs N (v3 + (1 : Int32))).bind fun x1333 => (sx xs N (v3 + (2 : Int32))).bind fun x1338 => (f8_gain h v1 x1333 x1338).bind fun x1339 => (sx xs N (v3 + (1 : Int32))).bind fun x1347 => (sx xs N (v3 + (2 : Int32))).bind fun x1352 => (f9_gain h v2 x1347 x1352).bind fun x1353 => (if x1339 = x1353 then (some (v3 + (9 : Int32))).bind fun x1430 => fL_law_18 xs N v1 v2 n h x1430 else some (false, h)) else (if (x29 &&& (63 : Int32)) = (32 : Int32) then (sx xs N (v3 + (1 : Int32))).bind fun x1366 => (f8_count h v1 x1366).bind fun x1367 => (sx xs N (v3 + (1 : Int32))).bind fun x1375 => (f9_count h v2 x1375).bind fun x1376 => (if x1367 = x1376 then (some (v3 + (9 : Int32))).bind fun x1430 => fL_law_18 xs N v1 v2 n h x1430 else some (false, h)) else (if (x29 &&& (63 : Int32)) = (33 : Int32) then (sx xs N (v3 + (1 : Int32))).bind fun x1389 => (f8_image h v1 x1389).bind fun x1390 => (sx xs N (v3 + (1 : Int32))).bind fun x1398 => (f9_image x1390.2 v2 x1398).bind fun x1399 => (if x1390.1 = x1399.1 then (some (v3 + (9 : Int32))).bind fun x1430 => fL_law_18 xs N v1 v2 n x1399.2 x1430 else some (false, x1399.2)) else (if (x29 &&& (63 : Int32)) = (34 : Int32) then (sx xs N (v3 + (1 : Int32))).bind fun x1412 => (f8_back h v1 x1412).bind fun x1413 => (sx xs N (v3 + (1 : Int32))).bind fun x1421 => (f9_back x1413.2 v2 x1421).bind fun x1422 => (if x1413.1 = x1422.1 then (some (v3 + (9 : Int32))).bind fun x1430 => fL_law_18 xs N v1 v2 n x1422.2 x1430 else some (false, x1422.2)) else (some (v3 + (9 : Int32))).bind fun x1430 => fL_law_18 xs N v1 v2 n h x1430))))))))))))))))))))))))))))))))))))
set_option maxRecDepth 100000 in
theorem vlL_law_18 {κ : Kx} {b N : Nat} {xs : Nat → Int32} (hc : CX κ RL cL_law) (hr : RX κ room_1) (hq : LQ b κ) (hX : SX κ b N xs) (hL : 4 = κ.2.2.2.2.1)  (v1 : Nat) (v2 : Nat) : ∀ n (k s : Nat), k + n * 20 + 0 ≤ 600000 → s + n * 6938 + 0 ≤ 7302250 → ∀ (h : AH) (v3 : Int32), V κ (wB) k s 18 [(0, .ref b), (1, .ref v1), (2, .ref v2), (3, .int v3)] [] h (fL_law_18 xs N v1 v2 n h v3) := by
  have hn : ∀ i, i < 4 → i < κ.2.2.2.2.1 := fun i q => hL ▸ q
  intro n
  induction n with
  | zero => intros; exact v_none
  | succ n ih =>
    intro k s hk hs
    intro h v3
    rw [fL_law_18.eq_2]
    refine v_iload_n (i := 3) hc 3 rfl dL_law_18 rfl ?_
    refine v_aload_n (i := 0) hc 0 rfl dL_law_19 rfl ?_
    refine v_slen hc hX dL_law_20 ?_
    refine v_bipush (x := (9 : Int32)) hc dL_law_21 zb_9 ?_
    refine v_isub hc dL_law_23 ?_
    refine v_icmp_gt hc 1436 dL_law_24 rfl ?_ ?_
    · refine v_iconst (x := (1 : Int32)) hc dL_law_1436 zi_1 ?_
      exact v_lawret1 hc hr hq (by (try dsimp only [room_1]); omega) (by (try dsimp only [room_1]); omega) dL_law_1437
    · refine v_aload_n (i := 0) hc 0 rfl dL_law_27 rfl ?_
      refine v_iload_n (i := 3) hc 3 rfl dL_law_28 rfl ?_
      refine v_sld hc hX dL_law_29 fun x29 => ?_
      refine v_bipush (x := (63 : Int32)) hc dL_law_30 zb_63 ?_
      refine v_iand hc dL_law_32 ?_
      refine v_ite (fun q0 => ?_) (fun q0 => ?_)
      · refine v_tIn hc (0 : Int32) q0 188 dL_law_33 (by decide) (by decide) rfl rfl ?_
        refine v_aload_n (i := 1) hc 1 rfl dL_law_188 rfl ?_
        refine v_aload_n (i := 0) hc 0 rfl dL_law_189 rfl ?_
        refine v_iload_n (i := 3) hc 3 rfl dL_law_190 rfl ?_
        refine v_iconst (x := (1 : Int32)) hc dL_law_191 zi_1 ?_
        refine v_iadd hc dL_law_192 ?_
        refine v_sld hc hX dL_law_193 fun x193 => ?_
        refine v_cwB hc (m_V' (As := [.int x193]) (b := v1) (rest := []) 1 hc hr (fun l D tys base => ct8_clock l D tys base h v1 x193) (fun x hx => ob8_clock hx) rfl s8_clock w_409 rfl ⟨Nat.le_of_ble_eq_true rfl, Nat.le_of_ble_eq_true rfl⟩ ⟨by (try dsimp only [room_1]); omega, by (try dsimp only [room_1]); omega⟩ (Nat.le_of_ble_eq_true rfl) dL_law_194) fun x194 => ?_
        refine v_aload_n (i := 2) hc 2 rfl dL_law_197 rfl ?_
        refine v_aload_n (i := 0) hc 0 rfl dL_law_198 rfl ?_
        refine v_iload_n (i := 3) hc 3 rfl dL_law_199 rfl ?_
        refine v_iconst (x := (1 : Int32)) hc dL_law_200 zi_1 ?_
        refine v_iadd hc dL_law_201 ?_
        refine v_sld hc hX dL_law_202 fun x202 => ?_
        refine v_cwB hc (m_V' (As := [.int x202]) (b := v2) (rest := [.int (bI x194.1)]) 1 hc hr (fun l D tys base => ct9_clock l D tys base x194.2 v2 x202) (fun x hx => ob9_clock hx) rfl s9_clock w_1241 rfl ⟨Nat.le_of_ble_eq_true rfl, Nat.le_of_ble_eq_true rfl⟩ ⟨by (try dsimp only [room_1]); omega, by (try dsimp only [room_1]); omega⟩ (Nat.le_of_ble_eq_true rfl) dL_law_203) fun x203 => ?_
        refine v_icmp_eq hc 1430 dL_law_206 rfl ?_ ?_
        · refine v_iincN (i := 3) (y := (9 : Int32)) (L' := fun z => [(3, .int z), (0, .ref b), (1, .ref v1), (2, .ref v2)]) hc 3 rfl dL_law_1430 zi_9 (hn 3 (Nat.le_of_ble_eq_true rfl)) (fun _ => rfl) fun x1430 => ?_
          refine v_goto hc 18 dL_law_1433 rfl ?_
          refine v_sub (L' := [(0, .ref b), (1, .ref v1), (2, .ref v2), (3, .int x1430)]) [1, 2, 3, 0] rfl ?_
          refine v_wide (k' := k + 20) (n' := s + 6938) (by omega) (by omega) ?_
          exact ih (k + 20) (s + 6938) (by omega) (by omega) x203.2 x1430
        · refine v_iconst (x := (0 : Int32)) hc dL_law_209 zi_0 ?_
          exact v_lawret0 hc hr hq (by (try dsimp only [room_1]); omega) (by (try dsimp only [room_1]); omega) dL_law_210
      · refine v_ite (fun q1 => ?_) (fun q1 => ?_)
        · refine v_tIn hc (1 : Int32) q1 211 dL_law_33 (by decide) (by decide) rfl rfl ?_
          refine v_aload_n (i := 1) hc 1 rfl dL_law_211 rfl ?_
          refine v_aload_n (i := 0) hc 0 rfl dL_law_212 rfl ?_
          refine v_iload_n (i := 3) hc 3 rfl dL_law_213 rfl ?_
          refine v_iconst (x := (1 : Int32)) hc dL_law_214 zi_1 ?_
          refine v_iadd hc dL_law_215 ?_
          refine v_sld hc hX dL_law_216 fun x216 => ?_
          refine v_aload_n (i := 0) hc 0 rfl dL_law_217 rfl ?_
          refine v_iload_n (i := 3) hc 3 rfl dL_law_218 rfl ?_
          refine v_iconst (x := (2 : Int32)) hc dL_law_219 zi_2 ?_
          refine v_iadd hc dL_law_220 ?_
          refine v_sld hc hX dL_law_221 fun x221 => ?_
          refine v_cwI hc (m_V' (As := [.int x216, .int x221]) (b := v1) (rest := []) 2 hc hr (fun l D tys base => ct8_stuff l D tys base h v1 x216 x221) (fun x hx => ob8_stuff hx) rfl s8_stuff w_416 rfl ⟨Nat.le_of_ble_eq_true rfl, Nat.le_of_ble_eq_true rfl⟩ ⟨by (try dsimp only [room_1]); omega, by (try dsimp only [room_1]); omega⟩ (Nat.le_of_ble_eq_true rfl) dL_law_222) fun x222 => ?_
          refine v_aload_n (i := 2) hc 2 rfl dL_law_225 rfl ?_
          refine v_aload_n (i := 0) hc 0 rfl dL_law_226 rfl ?_
          refine v_iload_n (i := 3) hc 3 rfl dL_law_227 rfl ?_
          refine v_iconst (x := (1 : Int32)) hc dL_law_228 zi_1 ?_
          refine v_iadd hc dL_law_229 ?_
          refine v_sld hc hX dL_law_230 fun x230 => ?_
          refine v_aload_n (i := 0) hc 0 rfl dL_law_231 rfl ?_
          refine v_iload_n (i := 3) hc 3 rfl dL_law_232 rfl ?_
          refine v_iconst (x := (2 : Int32)) hc dL_law_233 zi_2 ?_
          refine v_iadd hc dL_law_234 ?_
          refine v_sld hc hX dL_law_235 fun x235 => ?_
          refine v_cwI hc (m_V' (As := [.int x230, .int x235]) (b := v2) (rest := [.int x222.1]) 2 hc hr (fun l D tys base => ct9_stuff l D tys base x222.2 v2 x230 x235) (fun x hx => ob9_stuff hx) rfl s9_stuff w_1249 rfl ⟨Nat.le_of_ble_eq_true rfl, Nat.le_of_ble_eq_true rfl⟩ ⟨by (try dsimp only [room_1]); omega, by (try dsimp only [room_1]); omega⟩ (Nat.le_of_ble_eq_true rfl) dL_law_236) fun x236 => ?_
          refine v_icmp_eq hc 1430 dL_law_239 rfl ?_ ?_
          · refine v_iincN (i := 3) (y := (9 : Int32)) (L' := fun z => [(3, .int z), (0, .ref b), (1, .ref v1), (2, .ref v2)]) hc 3 rfl dL_law_1430 zi_9 (hn 3 (Nat.le_of_ble_eq_true rfl)) (fun _ => rfl) fun x1430 => ?_
            refine v_goto hc 18 dL_law_1433 rfl ?_
            refine v_sub (L' := [(0, .ref b), (1, .ref v1), (2, .ref v2), (3, .int x1430)]) [1, 2, 3, 0] rfl ?_
            refine v_wide (k' := k + 20) (n' := s + 6938) (by omega) (by omega) ?_
            exact ih (k + 20) (s + 6938) (by omega) (by omega) x236.2 x1430
          · refine v_iconst (x := (0 : Int32)) hc dL_law_242 zi_0 ?_
            exact v_lawret0 hc hr hq (by (try dsimp only [room_1]); omega) (by (try dsimp only [room_1]); omega) dL_law_243
        · refine v_ite (fun q2 => ?_) (fun q2 => ?_)
          · refine v_tIn hc (2 : Int32) q2 244 dL_law_33 (by decide) (by decide) rfl rfl ?_
            refine v_aload_n (i := 1) hc 1 rfl dL_law_244 rfl ?_
            refine v_aload_n (i := 0) hc 0 rfl dL_law_245 rfl ?_
            refine v_iload_n (i := 3) hc 3 rfl dL_law_246 rfl ?_
            refine v_iconst (x := (1 : Int32)) hc dL_law_247 zi_1 ?_
            refine v_iadd hc dL_law_248 ?_
            refine v_sld hc hX dL_law_249 fun x249 => ?_
            refine v_aload_n (i := 0) hc 0 rfl dL_law_250 rfl ?_
            refine v_iload_n (i := 3) hc 3 rfl dL_law_251 rfl ?_
            refine v_iconst (x := (2 : Int32)) hc dL_law_252 zi_2 ?_
            refine v_iadd hc dL_law_253 ?_
            refine v_sld hc hX dL_law_254 fun x254 => ?_
            refine v_cwI hc (m_V' (As := [.int x249, .int x254]) (b := v1) (rest := []) 2 hc hr (fun l D tys base => ct8_truth l D tys base h v1 x249 x254) (fun x hx => ob8_truth hx) rfl s8_truth w_441 rfl ⟨Nat.le_of_ble_eq_true rfl, Nat.le_of_ble_eq_true rfl⟩ ⟨by (try dsimp only [room_1]); omega, by (try dsimp only [room_1]); omega⟩ (Nat.le_of_ble_eq_true rfl) dL_law_255) fun x255 => ?_
            refine v_aload_n (i := 2) hc 2 rfl dL_law_258 rfl ?_
            refine v_aload_n (i := 0) hc 0 rfl dL_law_259 rfl ?_
            refine v_iload_n (i := 3) hc 3 rfl dL_law_260 rfl ?_
            refine v_iconst (x := (1 : Int32)) hc dL_law_261 zi_1 ?_
            refine v_iadd hc dL_law_262 ?_
            refine v_sld hc hX dL_law_263 fun x263 => ?_
            refine v_aload_n (i := 0) hc 0 rfl dL_law_264 rfl ?_
            refine v_iload_n (i := 3) hc 3 rfl dL_law_265 rfl ?_
            refine v_iconst (x := (2 : Int32)) hc dL_law_266 zi_2 ?_
            refine v_iadd hc dL_law_267 ?_
            refine v_sld hc hX dL_law_268 fun x268 => ?_
            refine v_cwI hc (m_V' (As := [.int x263, .int x268]) (b := v2) (rest := [.int x255.1]) 2 hc hr (fun l D tys base => ct9_truth l D tys base x255.2 v2 x263 x268) (fun x hx => ob9_truth hx) rfl s9_truth w_1256 rfl ⟨Nat.le_of_ble_eq_true rfl, Nat.le_of_ble_eq_true rfl⟩ ⟨by (try dsimp only [room_1]); omega, by (try dsimp only [room_1]); omega⟩ (Nat.le_of_ble_eq_true rfl) dL_law_269) fun x269 => ?_
            refine v_icmp_eq hc 1430 dL_law_272 rfl ?_ ?_
            · refine v_iincN (i := 3) (y := (9 : Int32)) (L' := fun z => [(3, .int z), (0, .ref b), (1, .ref v1), (2, .ref v2)]) hc 3 rfl dL_law_1430 zi_9 (hn 3 (Nat.le_of_ble_eq_true rfl)) (fun _ => rfl) fun x1430 => ?_
              refine v_goto hc 18 dL_law_1433 rfl ?_
              refine v_sub (L' := [(0, .ref b), (1, .ref v1), (2, .ref v2), (3, .int x1430)]) [1, 2, 3, 0] rfl ?_
              refine v_wide (k' := k + 20) (n' := s + 6938) (by omega) (by omega) ?_
              exact ih (k + 20) (s + 6938) (by omega) (by omega) x269.2 x1430
            · refine v_iconst (x := (0 : Int32)) hc dL_law_275 zi_0 ?_
              exact v_lawret0 hc hr hq (by (try dsimp only [room_1]); omega) (by (try dsimp only [room_1]); omega) dL_law_276
          · refine v_ite (fun q3 => ?_) (fun q3 => ?_)
            · refine v_tIn hc (3 : Int32) q3 277 dL_law_33 (by decide) (by decide) rfl rfl ?_
              refine v_aload_n (i := 1) hc 1 rfl dL_law_277 rfl ?_
              refine v_aload_n (i := 0) hc 0 rfl dL_law_278 rfl ?_
              refine v_iload_n (i := 3) hc 3 rfl dL_law_279 rfl ?_
              refine v_iconst (x := (1 : Int32)) hc dL_law_280 zi_1 ?_
              refine v_iadd hc dL_law_281 ?_
              refine v_sld hc hX dL_law_282 fun x282 => ?_
              refine v_aload_n (i := 0) hc 0 rfl dL_law_283 rfl ?_
              refine v_iload_n (i := 3) hc 3 rfl dL_law_284 rfl ?_
              refine v_iconst (x := (2 : Int32)) hc dL_law_285 zi_2 ?_
              refine v_iadd hc dL_law_286 ?_
              refine v_sld hc hX dL_law_287 fun x287 => ?_
              refine v_aload_n (i := 0) hc 0 rfl dL_law_288 rfl ?_
              refine v_iload_n (i := 3) hc 3 rfl dL_law_289 rfl ?_
              refine v_iconst (x := (3 : Int32)) hc dL_law_290 zi_3 ?_
              refine v_iadd hc dL_law_291 ?_
              refine v_sld hc hX dL_law_292 fun x292 => ?_
              refine v_cwI hc (m_V' (As := [.int x282, .int x287, .int x292]) (b := v1) (rest := []) 3 hc hr (fun l D tys base => ct8_fact l D tys base h v1 x282 x287 x292) (fun x hx => ob8_fact hx) rfl s8_fact w_463 rfl ⟨Nat.le_of_ble_eq_true rfl, Nat.le_of_ble_eq_true rfl⟩ ⟨by (try dsimp only [room_1]); omega, by (try dsimp only [room_1]); omega⟩ (Nat.le_of_ble_eq_true rfl) dL_law_293) fun x293 => ?_
              refine v_aload_n (i := 2) hc 2 rfl dL_law_296 rfl ?_
              refine v_aload_n (i := 0) hc 0 rfl dL_law_297 rfl ?_
              refine v_iload_n (i := 3) hc 3 rfl dL_law_298 rfl ?_
              refine v_iconst (x := (1 : Int32)) hc dL_law_299 zi_1 ?_
              refine v_iadd hc dL_law_300 ?_
              refine v_sld hc hX dL_law_301 fun x301 => ?_
              refine v_aload_n (i := 0) hc 0 rfl dL_law_302 rfl ?_
              refine v_iload_n (i := 3) hc 3 rfl dL_law_303 rfl ?_
              refine v_iconst (x := (2 : Int32)) hc dL_law_304 zi_2 ?_
              refine v_iadd hc dL_law_305 ?_
              refine v_sld hc hX dL_law_306 fun x306 => ?_
              refine v_aload_n (i := 0) hc 0 rfl dL_law_307 rfl ?_
              refine v_iload_n (i := 3) hc 3 rfl dL_law_308 rfl ?_
              refine v_iconst (x := (3 : Int32)) hc dL_law_309 zi_3 ?_
              refine v_iadd hc dL_law_310 ?_
              refine v_sld hc hX dL_law_311 fun x311 => ?_
              refine v_cwI hc (m_V' (As := [.int x301, .int x306, .int x311]) (b := v2) (rest := [.int x293.1]) 3 hc hr (fun l D tys base => ct9_fact l D tys base x293.2 v2 x301 x306 x311) (fun x hx => ob9_fact hx) rfl s9_fact w_1267 rfl ⟨Nat.le_of_ble_eq_true rfl, Nat.le_of_ble_eq_true rfl⟩ ⟨by (try dsimp only [room_1]); omega, by (try dsimp only [room_1]); omega⟩ (Nat.le_of_ble_eq_true rfl) dL_law_312) fun x312 => ?_
              refine v_icmp_eq hc 1430 dL_law_315 rfl ?_ ?_
              · refine v_iincN (i := 3) (y := (9 : Int32)) (L' := fun z => [(3, .int z), (0, .ref b), (1, .ref v1), (2, .ref v2)]) hc 3 rfl dL_law_1430 zi_9 (hn 3 (Nat.le_of_ble_eq_true rfl)) (fun _ => rfl) fun x1430 => ?_
                refine v_goto hc 18 dL_law_1433 rfl ?_
                refine v_sub (L' := [(0, .ref b), (1, .ref v1), (2, .ref v2), (3, .int x1430)]) [1, 2, 3, 0] rfl ?_
                refine v_wide (k' := k + 20) (n' := s + 6938) (by omega) (by omega) ?_
                exact ih (k + 20) (s + 6938) (by omega) (by omega) x312.2 x1430
              · refine v_iconst (x := (0 : Int32)) hc dL_law_318 zi_0 ?_
                exact v_lawret0 hc hr hq (by (try dsimp only [room_1]); omega) (by (try dsimp only [room_1]); omega) dL_law_319
            · refine v_ite (fun q4 => ?_) (fun q4 => ?_)
              · refine v_tIn hc (4 : Int32) q4 320 dL_law_33 (by decide) (by decide) rfl rfl ?_
                refine v_aload_n (i := 1) hc 1 rfl dL_law_320 rfl ?_
                refine v_aload_n (i := 0) hc 0 rfl dL_law_321 rfl ?_
                refine v_iload_n (i := 3) hc 3 rfl dL_law_322 rfl ?_
                refine v_iconst (x := (1 : Int32)) hc dL_law_323 zi_1 ?_
                refine v_iadd hc dL_law_324 ?_
                refine v_sld hc hX dL_law_325 fun x325 => ?_
                refine v_aload_n (i := 0) hc 0 rfl dL_law_326 rfl ?_
                refine v_iload_n (i := 3) hc 3 rfl dL_law_327 rfl ?_
                refine v_iconst (x := (2 : Int32)) hc dL_law_328 zi_2 ?_
                refine v_iadd hc dL_law_329 ?_
                refine v_sld hc hX dL_law_330 fun x330 => ?_
                refine v_aload_n (i := 0) hc 0 rfl dL_law_331 rfl ?_
                refine v_iload_n (i := 3) hc 3 rfl dL_law_332 rfl ?_
                refine v_iconst (x := (3 : Int32)) hc dL_law_333 zi_3 ?_
                refine v_iadd hc dL_law_334 ?_
                refine v_sld hc hX dL_law_335 fun x335 => ?_
                refine v_aload_n (i := 0) hc 0 rfl dL_law_336 rfl ?_
                refine v_iload_n (i := 3) hc 3 rfl dL_law_337 rfl ?_
                refine v_iconst (x := (4 : Int32)) hc dL_law_338 zi_4 ?_
                refine v_iadd hc dL_law_339 ?_
                refine v_sld hc hX dL_law_340 fun x340 => ?_
                refine v_aload_n (i := 0) hc 0 rfl dL_law_341 rfl ?_
                refine v_iload_n (i := 3) hc 3 rfl dL_law_342 rfl ?_
                refine v_iconst (x := (5 : Int32)) hc dL_law_343 zi_5 ?_
                refine v_iadd hc dL_law_344 ?_
                refine v_sld hc hX dL_law_345 fun x345 => ?_
                refine v_aload_n (i := 0) hc 0 rfl dL_law_346 rfl ?_
                refine v_iload_n (i := 3) hc 3 rfl dL_law_347 rfl ?_
                refine v_bipush (x := (6 : Int32)) hc dL_law_348 zb_6 ?_
                refine v_iadd hc dL_law_350 ?_
                refine v_sld hc hX dL_law_351 fun x351 => ?_
                refine v_aload_n (i := 0) hc 0 rfl dL_law_352 rfl ?_
                refine v_iload_n (i := 3) hc 3 rfl dL_law_353 rfl ?_
                refine v_bipush (x := (7 : Int32)) hc dL_law_354 zb_7 ?_
                refine v_iadd hc dL_law_356 ?_
                refine v_sld hc hX dL_law_357 fun x357 => ?_
                refine v_aload_n (i := 0) hc 0 rfl dL_law_358 rfl ?_
                refine v_iload_n (i := 3) hc 3 rfl dL_law_359 rfl ?_
                refine v_bipush (x := (8 : Int32)) hc dL_law_360 zb_8 ?_
                refine v_iadd hc dL_law_362 ?_
                refine v_sld hc hX dL_law_363 fun x363 => ?_
                refine v_cwI hc (m_V' (As := [.int x325, .int x330, .int x335, .int x340, .int x345, .int x351, .int x357, .int x363]) (b := v1) (rest := []) 8 hc hr (fun l D tys base => ct8_piece l D tys base h v1 x325 x330 x335 x340 x345 x351 x357 x363) (fun x hx => ob8_piece hx) rfl s8_piece w_467 rfl ⟨Nat.le_of_ble_eq_true rfl, Nat.le_of_ble_eq_true rfl⟩ ⟨by (try dsimp only [room_1]); omega, by (try dsimp only [room_1]); omega⟩ (Nat.le_of_ble_eq_true rfl) dL_law_364) fun x364 => ?_
                refine v_aload_n (i := 2) hc 2 rfl dL_law_367 rfl ?_
                refine v_aload_n (i := 0) hc 0 rfl dL_law_368 rfl ?_
                refine v_iload_n (i := 3) hc 3 rfl dL_law_369 rfl ?_
                refine v_iconst (x := (1 : Int32)) hc dL_law_370 zi_1 ?_
                refine v_iadd hc dL_law_371 ?_
                refine v_sld hc hX dL_law_372 fun x372 => ?_
                refine v_aload_n (i := 0) hc 0 rfl dL_law_373 rfl ?_
                refine v_iload_n (i := 3) hc 3 rfl dL_law_374 rfl ?_
                refine v_iconst (x := (2 : Int32)) hc dL_law_375 zi_2 ?_
                refine v_iadd hc dL_law_376 ?_
                refine v_sld hc hX dL_law_377 fun x377 => ?_
                refine v_aload_n (i := 0) hc 0 rfl dL_law_378 rfl ?_
                refine v_iload_n (i := 3) hc 3 rfl dL_law_379 rfl ?_
                refine v_iconst (x := (3 : Int32)) hc dL_law_380 zi_3 ?_
                refine v_iadd hc dL_law_381 ?_
                refine v_sld hc hX dL_law_382 fun x382 => ?_
                refine v_aload_n (i := 0) hc 0 rfl dL_law_383 rfl ?_
                refine v_iload_n (i := 3) hc 3 rfl dL_law_384 rfl ?_
                refine v_iconst (x := (4 : Int32)) hc dL_law_385 zi_4 ?_
                refine v_iadd hc dL_law_386 ?_
                refine v_sld hc hX dL_law_387 fun x387 => ?_
                refine v_aload_n (i := 0) hc 0 rfl dL_law_388 rfl ?_
                refine v_iload_n (i := 3) hc 3 rfl dL_law_389 rfl ?_
                refine v_iconst (x := (5 : Int32)) hc dL_law_390 zi_5 ?_
                refine v_iadd hc dL_law_391 ?_
                refine v_sld hc hX dL_law_392 fun x392 => ?_
                refine v_aload_n (i := 0) hc 0 rfl dL_law_393 rfl ?_
                refine v_iload_n (i := 3) hc 3 rfl dL_law_394 rfl ?_
                refine v_bipush (x := (6 : Int32)) hc dL_law_395 zb_6 ?_
                refine v_iadd hc dL_law_397 ?_
                refine v_sld hc hX dL_law_398 fun x398 => ?_
                refine v_aload_n (i := 0) hc 0 rfl dL_law_399 rfl ?_
                refine v_iload_n (i := 3) hc 3 rfl dL_law_400 rfl ?_
                refine v_bipush (x := (7 : Int32)) hc dL_law_401 zb_7 ?_
                refine v_iadd hc dL_law_403 ?_
                refine v_sld hc hX dL_law_404 fun x404 => ?_
                refine v_aload_n (i := 0) hc 0 rfl dL_law_405 rfl ?_
                refine v_iload_n (i := 3) hc 3 rfl dL_law_406 rfl ?_
                refine v_bipush (x := (8 : Int32)) hc dL_law_407 zb_8 ?_
                refine v_iadd hc dL_law_409 ?_
                refine v_sld hc hX dL_law_410 fun x410 => ?_
                refine v_cwI hc (m_V' (As := [.int x372, .int x377, .int x382, .int x387, .int x392, .int x398, .int x404, .int x410]) (b := v2) (rest := [.int x364.1]) 8 hc hr (fun l D tys base => ct9_piece l D tys base x364.2 v2 x372 x377 x382 x387 x392 x398 x404 x410) (fun x hx => ob9_piece hx) rfl s9_piece w_1276 rfl ⟨Nat.le_of_ble_eq_true rfl, Nat.le_of_ble_eq_true rfl⟩ ⟨by (try dsimp only [room_1]); omega, by (try dsimp only [room_1]); omega⟩ (Nat.le_of_ble_eq_true rfl) dL_law_411) fun x411 => ?_
                refine v_icmp_eq hc 1430 dL_law_414 rfl ?_ ?_
                · refine v_iincN (i := 3) (y := (9 : Int32)) (L' := fun z => [(3, .int z), (0, .ref b), (1, .ref v1), (2, .ref v2)]) hc 3 rfl dL_law_1430 zi_9 (hn 3 (Nat.le_of_ble_eq_true rfl)) (fun _ => rfl) fun x1430 => ?_
                  refine v_goto hc 18 dL_law_1433 rfl ?_
                  refine v_sub (L' := [(0, .ref b), (1, .ref v1), (2, .ref v2), (3, .int x1430)]) [1, 2, 3, 0] rfl ?_
                  refine v_wide (k' := k + 20) (n' := s + 6938) (by omega) (by omega) ?_
                  exact ih (k + 20) (s + 6938) (by omega) (by omega) x411.2 x1430
                · refine v_iconst (x := (0 : Int32)) hc dL_law_417 zi_0 ?_
                  exact v_lawret0 hc hr hq (by (try dsimp only [room_1]); omega) (by (try dsimp only [room_1]); omega) dL_law_418
              · refine v_ite (fun q5 => ?_) (fun q5 => ?_)
                · refine v_tIn hc (5 : Int32) q5 419 dL_law_33 (by decide) (by decide) rfl rfl ?_
                  refine v_aload_n (i := 1) hc 1 rfl dL_law_419 rfl ?_
                  refine v_aload_n (i := 0) hc 0 rfl dL_law_420 rfl ?_
                  refine v_iload_n (i := 3) hc 3 rfl dL_law_421 rfl ?_
                  refine v_iconst (x := (1 : Int32)) hc dL_law_422 zi_1 ?_
                  refine v_iadd hc dL_law_423 ?_
                  refine v_sld hc hX dL_law_424 fun x424 => ?_
                  refine v_aload_n (i := 0) hc 0 rfl dL_law_425 rfl ?_
                  refine v_iload_n (i := 3) hc 3 rfl dL_law_426 rfl ?_
                  refine v_iconst (x := (2 : Int32)) hc dL_law_427 zi_2 ?_
                  refine v_iadd hc dL_law_428 ?_
                  refine v_sld hc hX dL_law_429 fun x429 => ?_
                  refine v_aload_n (i := 0) hc 0 rfl dL_law_430 rfl ?_
                  refine v_iload_n (i := 3) hc 3 rfl dL_law_431 rfl ?_
                  refine v_iconst (x := (3 : Int32)) hc dL_law_432 zi_3 ?_
                  refine v_iadd hc dL_law_433 ?_
                  refine v_sld hc hX dL_law_434 fun x434 => ?_
                  refine v_cwI hc (m_V' (As := [.int x424, .int x429, .int x434]) (b := v1) (rest := []) 3 hc hr (fun l D tys base => ct8_page l D tys base h v1 x424 x429 x434) (fun x hx => ob8_page hx) rfl s8_page w_478 rfl ⟨Nat.le_of_ble_eq_true rfl, Nat.le_of_ble_eq_true rfl⟩ ⟨by (try dsimp only [room_1]); omega, by (try dsimp only [room_1]); omega⟩ (Nat.le_of_ble_eq_true rfl) dL_law_435) fun x435 => ?_
                  refine v_aload_n (i := 2) hc 2 rfl dL_law_438 rfl ?_
                  refine v_aload_n (i := 0) hc 0 rfl dL_law_439 rfl ?_
                  refine v_iload_n (i := 3) hc 3 rfl dL_law_440 rfl ?_
                  refine v_iconst (x := (1 : Int32)) hc dL_law_441 zi_1 ?_
                  refine v_iadd hc dL_law_442 ?_
                  refine v_sld hc hX dL_law_443 fun x443 => ?_
                  refine v_aload_n (i := 0) hc 0 rfl dL_law_444 rfl ?_
                  refine v_iload_n (i := 3) hc 3 rfl dL_law_445 rfl ?_
                  refine v_iconst (x := (2 : Int32)) hc dL_law_446 zi_2 ?_
                  refine v_iadd hc dL_law_447 ?_
                  refine v_sld hc hX dL_law_448 fun x448 => ?_
                  refine v_aload_n (i := 0) hc 0 rfl dL_law_449 rfl ?_
                  refine v_iload_n (i := 3) hc 3 rfl dL_law_450 rfl ?_
                  refine v_iconst (x := (3 : Int32)) hc dL_law_451 zi_3 ?_
                  refine v_iadd hc dL_law_452 ?_
                  refine v_sld hc hX dL_law_453 fun x453 => ?_
                  refine v_cwI hc (m_V' (As := [.int x443, .int x448, .int x453]) (b := v2) (rest := [.int x435.1]) 3 hc hr (fun l D tys base => ct9_page l D tys base x435.2 v2 x443 x448 x453) (fun x hx => ob9_page hx) rfl s9_page w_1282 rfl ⟨Nat.le_of_ble_eq_true rfl, Nat.le_of_ble_eq_true rfl⟩ ⟨by (try dsimp only [room_1]); omega, by (try dsimp only [room_1]); omega⟩ (Nat.le_of_ble_eq_true rfl) dL_law_454) fun x454 => ?_
                  refine v_icmp_eq hc 1430 dL_law_457 rfl ?_ ?_
                  · refine v_iincN (i := 3) (y := (9 : Int32)) (L' := fun z => [(3, .int z), (0, .ref b), (1, .ref v1), (2, .ref v2)]) hc 3 rfl dL_law_1430 zi_9 (hn 3 (Nat.le_of_ble_eq_true rfl)) (fun _ => rfl) fun x1430 => ?_
                    refine v_goto hc 18 dL_law_1433 rfl ?_
                    refine v_sub (L' := [(0, .ref b), (1, .ref v1), (2, .ref v2), (3, .int x1430)]) [1, 2, 3, 0] rfl ?_
                    refine v_wide (k' := k + 20) (n' := s + 6938) (by omega) (by omega) ?_
                    exact ih (k + 20) (s + 6938) (by omega) (by omega) x454.2 x1430
                  · refine v_iconst (x := (0 : Int32)) hc dL_law_460 zi_0 ?_
                    exact v_lawret0 hc hr hq (by (try dsimp only [room_1]); omega) (by (try dsimp only [room_1]); omega) dL_law_461
                · refine v_ite (fun q6 => ?_) (fun q6 => ?_)
                  · refine v_tIn hc (6 : Int32) q6 462 dL_law_33 (by decide) (by decide) rfl rfl ?_
                    refine v_aload_n (i := 1) hc 1 rfl dL_law_462 rfl ?_
                    refine v_aload_n (i := 0) hc 0 rfl dL_law_463 rfl ?_
                    refine v_iload_n (i := 3) hc 3 rfl dL_law_464 rfl ?_
                    refine v_iconst (x := (1 : Int32)) hc dL_law_465 zi_1 ?_
                    refine v_iadd hc dL_law_466 ?_
                    refine v_sld hc hX dL_law_467 fun x467 => ?_
                    refine v_aload_n (i := 0) hc 0 rfl dL_law_468 rfl ?_
                    refine v_iload_n (i := 3) hc 3 rfl dL_law_469 rfl ?_
                    refine v_iconst (x := (2 : Int32)) hc dL_law_470 zi_2 ?_
                    refine v_iadd hc dL_law_471 ?_
                    refine v_sld hc hX dL_law_472 fun x472 => ?_
                    refine v_cI hc (m_V' (As := [.int x467, .int x472]) (b := v1) (rest := []) 2 hc hr (fun l D tys base => ct8_of l D tys base h v1 x467 x472) (fun x hx => ob8_of hx) rfl s8_of w_483 rfl ⟨Nat.le_of_ble_eq_true rfl, Nat.le_of_ble_eq_true rfl⟩ ⟨by (try dsimp only [room_1]); omega, by (try dsimp only [room_1]); omega⟩ (Nat.le_of_ble_eq_true rfl) dL_law_473) fun x473 => ?_
                    refine v_aload_n (i := 2) hc 2 rfl dL_law_476 rfl ?_
                    refine v_aload_n (i := 0) hc 0 rfl dL_law_477 rfl ?_
                    refine v_iload_n (i := 3) hc 3 rfl dL_law_478 rfl ?_
                    refine v_iconst (x := (1 : Int32)) hc dL_law_479 zi_1 ?_
                    refine v_iadd hc dL_law_480 ?_
                    refine v_sld hc hX dL_law_481 fun x481 => ?_
                    refine v_aload_n (i := 0) hc 0 rfl dL_law_482 rfl ?_
                    refine v_iload_n (i := 3) hc 3 rfl dL_law_483 rfl ?_
                    refine v_iconst (x := (2 : Int32)) hc dL_law_484 zi_2 ?_
                    refine v_iadd hc dL_law_485 ?_
                    refine v_sld hc hX dL_law_486 fun x486 => ?_
                    refine v_cI hc (m_V' (As := [.int x481, .int x486]) (b := v2) (rest := [.int x473]) 2 hc hr (fun l D tys base => ct9_of l D tys base h v2 x481 x486) (fun x hx => ob9_of hx) rfl s9_of w_1298 rfl ⟨Nat.le_of_ble_eq_true rfl, Nat.le_of_ble_eq_true rfl⟩ ⟨by (try dsimp only [room_1]); omega, by (try dsimp only [room_1]); omega⟩ (Nat.le_of_ble_eq_true rfl) dL_law_487) fun x487 => ?_
                    refine v_icmp_eq hc 1430 dL_law_490 rfl ?_ ?_
                    · refine v_iincN (i := 3) (y := (9 : Int32)) (L' := fun z => [(3, .int z), (0, .ref b), (1, .ref v1), (2, .ref v2)]) hc 3 rfl dL_law_1430 zi_9 (hn 3 (Nat.le_of_ble_eq_true rfl)) (fun _ => rfl) fun x1430 => ?_
                      refine v_goto hc 18 dL_law_1433 rfl ?_
                      refine v_sub (L' := [(0, .ref b), (1, .ref v1), (2, .ref v2), (3, .int x1430)]) [1, 2, 3, 0] rfl ?_
                      refine v_wide (k' := k + 20) (n' := s + 6938) (by omega) (by omega) ?_
                      exact ih (k + 20) (s + 6938) (by omega) (by omega) h x1430
                    · refine v_iconst (x := (0 : Int32)) hc dL_law_493 zi_0 ?_
                      exact v_lawret0 hc hr hq (by (try dsimp only [room_1]); omega) (by (try dsimp only [room_1]); omega) dL_law_494
                  · refine v_ite (fun q7 => ?_) (fun q7 => ?_)
                    · refine v_tIn hc (7 : Int32) q7 495 dL_law_33 (by decide) (by decide) rfl rfl ?_
                      refine v_aload_n (i := 1) hc 1 rfl dL_law_495 rfl ?_
                      refine v_aload_n (i := 0) hc 0 rfl dL_law_496 rfl ?_
                      refine v_iload_n (i := 3) hc 3 rfl dL_law_497 rfl ?_
                      refine v_iconst (x := (1 : Int32)) hc dL_law_498 zi_1 ?_
                      refine v_iadd hc dL_law_499 ?_
                      refine v_sld hc hX dL_law_500 fun x500 => ?_
                      refine v_aload_n (i := 0) hc 0 rfl dL_law_501 rfl ?_
                      refine v_iload_n (i := 3) hc 3 rfl dL_law_502 rfl ?_
                      refine v_iconst (x := (2 : Int32)) hc dL_law_503 zi_2 ?_
                      refine v_iadd hc dL_law_504 ?_
                      refine v_sld hc hX dL_law_505 fun x505 => ?_
                      refine v_cI hc (m_V' (As := [.int x500, .int x505]) (b := v1) (rest := []) 2 hc hr (fun l D tys base => ct8_shared l D tys base h v1 x500 x505) (fun x hx => ob8_shared hx) rfl s8_shared w_560 rfl ⟨Nat.le_of_ble_eq_true rfl, Nat.le_of_ble_eq_true rfl⟩ ⟨by (try dsimp only [room_1]); omega, by (try dsimp only [room_1]); omega⟩ (Nat.le_of_ble_eq_true rfl) dL_law_506) fun x506 => ?_
                      refine v_aload_n (i := 2) hc 2 rfl dL_law_509 rfl ?_
                      refine v_aload_n (i := 0) hc 0 rfl dL_law_510 rfl ?_
                      refine v_iload_n (i := 3) hc 3 rfl dL_law_511 rfl ?_
                      refine v_iconst (x := (1 : Int32)) hc dL_law_512 zi_1 ?_
                      refine v_iadd hc dL_law_513 ?_
                      refine v_sld hc hX dL_law_514 fun x514 => ?_
                      refine v_aload_n (i := 0) hc 0 rfl dL_law_515 rfl ?_
                      refine v_iload_n (i := 3) hc 3 rfl dL_law_516 rfl ?_
                      refine v_iconst (x := (2 : Int32)) hc dL_law_517 zi_2 ?_
                      refine v_iadd hc dL_law_518 ?_
                      refine v_sld hc hX dL_law_519 fun x519 => ?_
                      refine v_cI hc (m_V' (As := [.int x514, .int x519]) (b := v2) (rest := [.int x506]) 2 hc hr (fun l D tys base => ct9_shared l D tys base h v2 x514 x519) (fun x hx => ob9_shared hx) rfl s9_shared w_1335 rfl ⟨Nat.le_of_ble_eq_true rfl, Nat.le_of_ble_eq_true rfl⟩ ⟨by (try dsimp only [room_1]); omega, by (try dsimp only [room_1]); omega⟩ (Nat.le_of_ble_eq_true rfl) dL_law_520) fun x520 => ?_
                      refine v_icmp_eq hc 1430 dL_law_523 rfl ?_ ?_
                      · refine v_iincN (i := 3) (y := (9 : Int32)) (L' := fun z => [(3, .int z), (0, .ref b), (1, .ref v1), (2, .ref v2)]) hc 3 rfl dL_law_1430 zi_9 (hn 3 (Nat.le_of_ble_eq_true rfl)) (fun _ => rfl) fun x1430 => ?_
                        refine v_goto hc 18 dL_law_1433 rfl ?_
                        refine v_sub (L' := [(0, .ref b), (1, .ref v1), (2, .ref v2), (3, .int x1430)]) [1, 2, 3, 0] rfl ?_
                        refine v_wide (k' := k + 20) (n' := s + 6938) (by omega) (by omega) ?_
                        exact ih (k + 20) (s + 6938) (by omega) (by omega) h x1430
                      · refine v_iconst (x := (0 : Int32)) hc dL_law_526 zi_0 ?_
                        exact v_lawret0 hc hr hq (by (try dsimp only [room_1]); omega) (by (try dsimp only [room_1]); omega) dL_law_527
                    · refine v_ite (fun q8 => ?_) (fun q8 => ?_)
                      · refine v_tIn hc (8 : Int32) q8 528 dL_law_33 (by decide) (by decide) rfl rfl ?_
                        refine v_aload_n (i := 1) hc 1 rfl dL_law_528 rfl ?_
                        refine v_aload_n (i := 0) hc 0 rfl dL_law_529 rfl ?_
                        refine v_iload_n (i := 3) hc 3 rfl dL_law_530 rfl ?_
                        refine v_iconst (x := (1 : Int32)) hc dL_law_531 zi_1 ?_
                        refine v_iadd hc dL_law_532 ?_
                        refine v_sld hc hX dL_law_533 fun x533 => ?_
                        refine v_aload_n (i := 0) hc 0 rfl dL_law_534 rfl ?_
                        refine v_iload_n (i := 3) hc 3 rfl dL_law_535 rfl ?_
                        refine v_iconst (x := (2 : Int32)) hc dL_law_536 zi_2 ?_
                        refine v_iadd hc dL_law_537 ?_
                        refine v_sld hc hX dL_law_538 fun x538 => ?_
                        refine v_aload_n (i := 0) hc 0 rfl dL_law_539 rfl ?_
                        refine v_iload_n (i := 3) hc 3 rfl dL_law_540 rfl ?_
                        refine v_iconst (x := (3 : Int32)) hc dL_law_541 zi_3 ?_
                        refine v_iadd hc dL_law_542 ?_
                        refine v_sld hc hX dL_law_543 fun x543 => ?_
                        refine v_aload_n (i := 0) hc 0 rfl dL_law_544 rfl ?_
                        refine v_iload_n (i := 3) hc 3 rfl dL_law_545 rfl ?_
                        refine v_iconst (x := (4 : Int32)) hc dL_law_546 zi_4 ?_
                        refine v_iadd hc dL_law_547 ?_
                        refine v_sld hc hX dL_law_548 fun x548 => ?_
                        refine v_aload_n (i := 0) hc 0 rfl dL_law_549 rfl ?_
                        refine v_iload_n (i := 3) hc 3 rfl dL_law_550 rfl ?_
                        refine v_iconst (x := (5 : Int32)) hc dL_law_551 zi_5 ?_
                        refine v_iadd hc dL_law_552 ?_
                        refine v_sld hc hX dL_law_553 fun x553 => ?_
                        refine v_cwI hc (m_V' (As := [.int x533, .int x538, .int x543, .int x548, .int x553]) (b := v1) (rest := []) 5 hc hr (fun l D tys base => ct8_feed l D tys base h v1 x533 x538 x543 x548 x553) (fun x hx => ob8_feed hx) rfl s8_feed w_568 rfl ⟨Nat.le_of_ble_eq_true rfl, Nat.le_of_ble_eq_true rfl⟩ ⟨by (try dsimp only [room_1]); omega, by (try dsimp only [room_1]); omega⟩ (Nat.le_of_ble_eq_true rfl) dL_law_554) fun x554 => ?_
                        refine v_aload_n (i := 2) hc 2 rfl dL_law_557 rfl ?_
                        refine v_aload_n (i := 0) hc 0 rfl dL_law_558 rfl ?_
                        refine v_iload_n (i := 3) hc 3 rfl dL_law_559 rfl ?_
                        refine v_iconst (x := (1 : Int32)) hc dL_law_560 zi_1 ?_
                        refine v_iadd hc dL_law_561 ?_
                        refine v_sld hc hX dL_law_562 fun x562 => ?_
                        refine v_aload_n (i := 0) hc 0 rfl dL_law_563 rfl ?_
                        refine v_iload_n (i := 3) hc 3 rfl dL_law_564 rfl ?_
                        refine v_iconst (x := (2 : Int32)) hc dL_law_565 zi_2 ?_
                        refine v_iadd hc dL_law_566 ?_
                        refine v_sld hc hX dL_law_567 fun x567 => ?_
                        refine v_aload_n (i := 0) hc 0 rfl dL_law_568 rfl ?_
                        refine v_iload_n (i := 3) hc 3 rfl dL_law_569 rfl ?_
                        refine v_iconst (x := (3 : Int32)) hc dL_law_570 zi_3 ?_
                        refine v_iadd hc dL_law_571 ?_
                        refine v_sld hc hX dL_law_572 fun x572 => ?_
                        refine v_aload_n (i := 0) hc 0 rfl dL_law_573 rfl ?_
                        refine v_iload_n (i := 3) hc 3 rfl dL_law_574 rfl ?_
                        refine v_iconst (x := (4 : Int32)) hc dL_law_575 zi_4 ?_
                        refine v_iadd hc dL_law_576 ?_
                        refine v_sld hc hX dL_law_577 fun x577 => ?_
                        refine v_aload_n (i := 0) hc 0 rfl dL_law_578 rfl ?_
                        refine v_iload_n (i := 3) hc 3 rfl dL_law_579 rfl ?_
                        refine v_iconst (x := (5 : Int32)) hc dL_law_580 zi_5 ?_
                        refine v_iadd hc dL_law_581 ?_
                        refine v_sld hc hX dL_law_582 fun x582 => ?_
                        refine v_cwI hc (m_V' (As := [.int x562, .int x567, .int x572, .int x577, .int x582]) (b := v2) (rest := [.int x554.1]) 5 hc hr (fun l D tys base => ct9_feed l D tys base x554.2 v2 x562 x567 x572 x577 x582) (fun x hx => ob9_feed hx) rfl s9_feed w_1343 rfl ⟨Nat.le_of_ble_eq_true rfl, Nat.le_of_ble_eq_true rfl⟩ ⟨by (try dsimp only [room_1]); omega, by (try dsimp only [room_1]); omega⟩ (Nat.le_of_ble_eq_true rfl) dL_law_583) fun x583 => ?_
                        refine v_icmp_eq hc 1430 dL_law_586 rfl ?_ ?_
                        · refine v_iincN (i := 3) (y := (9 : Int32)) (L' := fun z => [(3, .int z), (0, .ref b), (1, .ref v1), (2, .ref v2)]) hc 3 rfl dL_law_1430 zi_9 (hn 3 (Nat.le_of_ble_eq_true rfl)) (fun _ => rfl) fun x1430 => ?_
                          refine v_goto hc 18 dL_law_1433 rfl ?_
                          refine v_sub (L' := [(0, .ref b), (1, .ref v1), (2, .ref v2), (3, .int x1430)]) [1, 2, 3, 0] rfl ?_
                          refine v_wide (k' := k + 20) (n' := s + 6938) (by omega) (by omega) ?_
                          exact ih (k + 20) (s + 6938) (by omega) (by omega) x583.2 x1430
                        · refine v_iconst (x := (0 : Int32)) hc dL_law_589 zi_0 ?_
                          exact v_lawret0 hc hr hq (by (try dsimp only [room_1]); omega) (by (try dsimp only [room_1]); omega) dL_law_590
                      · refine v_ite (fun q9 => ?_) (fun q9 => ?_)
                        · refine v_tIn hc (9 : Int32) q9 591 dL_law_33 (by decide) (by decide) rfl rfl ?_
                          refine v_aload_n (i := 1) hc 1 rfl dL_law_591 rfl ?_
                          refine v_aload_n (i := 0) hc 0 rfl dL_law_592 rfl ?_
                          refine v_iload_n (i := 3) hc 3 rfl dL_law_593 rfl ?_
                          refine v_iconst (x := (1 : Int32)) hc dL_law_594 zi_1 ?_
                          refine v_iadd hc dL_law_595 ?_
                          refine v_sld hc hX dL_law_596 fun x596 => ?_
                          refine v_cwI hc (m_V' (As := [.int x596]) (b := v1) (rest := []) 1 hc hr (fun l D tys base => ct8_end l D tys base h v1 x596) (fun x hx => ob8_end hx) rfl s8_end w_580 rfl ⟨Nat.le_of_ble_eq_true rfl, Nat.le_of_ble_eq_true rfl⟩ ⟨by (try dsimp only [room_1]); omega, by (try dsimp only [room_1]); omega⟩ (Nat.le_of_ble_eq_true rfl) dL_law_597) fun x597 => ?_
                          refine v_aload_n (i := 2) hc 2 rfl dL_law_600 rfl ?_
                          refine v_aload_n (i := 0) hc 0 rfl dL_law_601 rfl ?_
                          refine v_iload_n (i := 3) hc 3 rfl dL_law_602 rfl ?_
                          refine v_iconst (x := (1 : Int32)) hc dL_law_603 zi_1 ?_
                          refine v_iadd hc dL_law_604 ?_
                          refine v_sld hc hX dL_law_605 fun x605 => ?_
                          refine v_cwI hc (m_V' (As := [.int x605]) (b := v2) (rest := [.int x597.1]) 1 hc hr (fun l D tys base => ct9_end l D tys base x597.2 v2 x605) (fun x hx => ob9_end hx) rfl s9_end w_1351 rfl ⟨Nat.le_of_ble_eq_true rfl, Nat.le_of_ble_eq_true rfl⟩ ⟨by (try dsimp only [room_1]); omega, by (try dsimp only [room_1]); omega⟩ (Nat.le_of_ble_eq_true rfl) dL_law_606) fun x606 => ?_
                          refine v_icmp_eq hc 1430 dL_law_609 rfl ?_ ?_
                          · refine v_iincN (i := 3) (y := (9 : Int32)) (L' := fun z => [(3, .int z), (0, .ref b), (1, .ref v1), (2, .ref v2)]) hc 3 rfl dL_law_1430 zi_9 (hn 3 (Nat.le_of_ble_eq_true rfl)) (fun _ => rfl) fun x1430 => ?_
                            refine v_goto hc 18 dL_law_1433 rfl ?_
                            refine v_sub (L' := [(0, .ref b), (1, .ref v1), (2, .ref v2), (3, .int x1430)]) [1, 2, 3, 0] rfl ?_
                            refine v_wide (k' := k + 20) (n' := s + 6938) (by omega) (by omega) ?_
                            exact ih (k + 20) (s + 6938) (by omega) (by omega) x606.2 x1430
                          · refine v_iconst (x := (0 : Int32)) hc dL_law_612 zi_0 ?_
                            exact v_lawret0 hc hr hq (by (try dsimp only [room_1]); omega) (by (try dsimp only [room_1]); omega) dL_law_613
                        · refine v_ite (fun q10 => ?_) (fun q10 => ?_)
                          · refine v_tIn hc (10 : Int32) q10 614 dL_law_33 (by decide) (by decide) rfl rfl ?_
                            refine v_aload_n (i := 1) hc 1 rfl dL_law_614 rfl ?_
                            refine v_cwI hc (m_V' (As := []) (b := v1) (rest := []) 0 hc hr (fun l D tys base => ct8_reader l D tys base h v1) (fun x hx => ob8_reader hx) rfl s8_reader w_588 rfl ⟨Nat.le_of_ble_eq_true rfl, Nat.le_of_ble_eq_true rfl⟩ ⟨by (try dsimp only [room_1]); omega, by (try dsimp only [room_1]); omega⟩ (Nat.le_of_ble_eq_true rfl) dL_law_615) fun x615 => ?_
                            refine v_aload_n (i := 2) hc 2 rfl dL_law_618 rfl ?_
                            refine v_cwI hc (m_V' (As := []) (b := v2) (rest := [.int x615.1]) 0 hc hr (fun l D tys base => ct9_reader l D tys base x615.2 v2) (fun x hx => ob9_reader hx) rfl s9_reader w_1355 rfl ⟨Nat.le_of_ble_eq_true rfl, Nat.le_of_ble_eq_true rfl⟩ ⟨by (try dsimp only [room_1]); omega, by (try dsimp only [room_1]); omega⟩ (Nat.le_of_ble_eq_true rfl) dL_law_619) fun x619 => ?_
                            refine v_icmp_eq hc 1430 dL_law_622 rfl ?_ ?_
                            · refine v_iincN (i := 3) (y := (9 : Int32)) (L' := fun z => [(3, .int z), (0, .ref b), (1, .ref v1), (2, .ref v2)]) hc 3 rfl dL_law_1430 zi_9 (hn 3 (Nat.le_of_ble_eq_true rfl)) (fun _ => rfl) fun x1430 => ?_
                              refine v_goto hc 18 dL_law_1433 rfl ?_
                              refine v_sub (L' := [(0, .ref b), (1, .ref v1), (2, .ref v2), (3, .int x1430)]) [1, 2, 3, 0] rfl ?_
                              refine v_wide (k' := k + 20) (n' := s + 6938) (by omega) (by omega) ?_
                              exact ih (k + 20) (s + 6938) (by omega) (by omega) x619.2 x1430
                            · refine v_iconst (x := (0 : Int32)) hc dL_law_625 zi_0 ?_
                              exact v_lawret0 hc hr hq (by (try dsimp only [room_1]); omega) (by (try dsimp only [room_1]); omega) dL_law_626
                          · refine v_ite (fun q11 => ?_) (fun q11 => ?_)
                            · refine v_tIn hc (11 : Int32) q11 627 dL_law_33 (by decide) (by decide) rfl rfl ?_
                              refine v_aload_n (i := 1) hc 1 rfl dL_law_627 rfl ?_
                              refine v_cwI hc (m_V' (As := []) (b := v1) (rest := []) 0 hc hr (fun l D tys base => ct8_maker l D tys base h v1) (fun x hx => ob8_maker hx) rfl s8_maker w_780 rfl ⟨Nat.le_of_ble_eq_true rfl, Nat.le_of_ble_eq_true rfl⟩ ⟨by (try dsimp only [room_1]); omega, by (try dsimp only [room_1]); omega⟩ (Nat.le_of_ble_eq_true rfl) dL_law_628) fun x628 => ?_
                              refine v_aload_n (i := 2) hc 2 rfl dL_law_631 rfl ?_
                              refine v_cwI hc (m_V' (As := []) (b := v2) (rest := [.int x628.1]) 0 hc hr (fun l D tys base => ct9_maker l D tys base x628.2 v2) (fun x hx => ob9_maker hx) rfl s9_maker w_1492 rfl ⟨Nat.le_of_ble_eq_true rfl, Nat.le_of_ble_eq_true rfl⟩ ⟨by (try dsimp only [room_1]); omega, by (try dsimp only [room_1]); omega⟩ (Nat.le_of_ble_eq_true rfl) dL_law_632) fun x632 => ?_
                              refine v_icmp_eq hc 1430 dL_law_635 rfl ?_ ?_
                              · refine v_iincN (i := 3) (y := (9 : Int32)) (L' := fun z => [(3, .int z), (0, .ref b), (1, .ref v1), (2, .ref v2)]) hc 3 rfl dL_law_1430 zi_9 (hn 3 (Nat.le_of_ble_eq_true rfl)) (fun _ => rfl) fun x1430 => ?_
                                refine v_goto hc 18 dL_law_1433 rfl ?_
                                refine v_sub (L' := [(0, .ref b), (1, .ref v1), (2, .ref v2), (3, .int x1430)]) [1, 2, 3, 0] rfl ?_
                                refine v_wide (k' := k + 20) (n' := s + 6938) (by omega) (by omega) ?_
                                exact ih (k + 20) (s + 6938) (by omega) (by omega) x632.2 x1430
                              · refine v_iconst (x := (0 : Int32)) hc dL_law_638 zi_0 ?_
                                exact v_lawret0 hc hr hq (by (try dsimp only [room_1]); omega) (by (try dsimp only [room_1]); omega) dL_law_639
                            · refine v_ite (fun q12 => ?_) (fun q12 => ?_)
                              · refine v_tIn hc (12 : Int32) q12 640 dL_law_33 (by decide) (by decide) rfl rfl ?_
                                refine v_aload_n (i := 1) hc 1 rfl dL_law_640 rfl ?_
                                refine v_aload_n (i := 0) hc 0 rfl dL_law_641 rfl ?_
                                refine v_iload_n (i := 3) hc 3 rfl dL_law_642 rfl ?_
                                refine v_iconst (x := (1 : Int32)) hc dL_law_643 zi_1 ?_
                                refine v_iadd hc dL_law_644 ?_
                                refine v_sld hc hX dL_law_645 fun x645 => ?_
                                refine v_aload_n (i := 0) hc 0 rfl dL_law_646 rfl ?_
                                refine v_iload_n (i := 3) hc 3 rfl dL_law_647 rfl ?_
                                refine v_iconst (x := (2 : Int32)) hc dL_law_648 zi_2 ?_
                                refine v_iadd hc dL_law_649 ?_
                                refine v_sld hc hX dL_law_650 fun x650 => ?_
                                refine v_aload_n (i := 0) hc 0 rfl dL_law_651 rfl ?_
                                refine v_iload_n (i := 3) hc 3 rfl dL_law_652 rfl ?_
                                refine v_iconst (x := (3 : Int32)) hc dL_law_653 zi_3 ?_
                                refine v_iadd hc dL_law_654 ?_
                                refine v_sld hc hX dL_law_655 fun x655 => ?_
                                refine v_cwI hc (m_V' (As := [.int x645, .int x650, .int x655]) (b := v1) (rest := []) 3 hc hr (fun l D tys base => ct8_chance l D tys base h v1 x645 x650 x655) (fun x hx => ob8_chance hx) rfl s8_chance w_784 rfl ⟨Nat.le_of_ble_eq_true rfl, Nat.le_of_ble_eq_true rfl⟩ ⟨by (try dsimp only [room_1]); omega, by (try dsimp only [room_1]); omega⟩ (Nat.le_of_ble_eq_true rfl) dL_law_656) fun x656 => ?_
                                refine v_aload_n (i := 2) hc 2 rfl dL_law_659 rfl ?_
                                refine v_aload_n (i := 0) hc 0 rfl dL_law_660 rfl ?_
                                refine v_iload_n (i := 3) hc 3 rfl dL_law_661 rfl ?_
                                refine v_iconst (x := (1 : Int32)) hc dL_law_662 zi_1 ?_
                                refine v_iadd hc dL_law_663 ?_
                                refine v_sld hc hX dL_law_664 fun x664 => ?_
                                refine v_aload_n (i := 0) hc 0 rfl dL_law_665 rfl ?_
                                refine v_iload_n (i := 3) hc 3 rfl dL_law_666 rfl ?_
                                refine v_iconst (x := (2 : Int32)) hc dL_law_667 zi_2 ?_
                                refine v_iadd hc dL_law_668 ?_
                                refine v_sld hc hX dL_law_669 fun x669 => ?_
                                refine v_aload_n (i := 0) hc 0 rfl dL_law_670 rfl ?_
                                refine v_iload_n (i := 3) hc 3 rfl dL_law_671 rfl ?_
                                refine v_iconst (x := (3 : Int32)) hc dL_law_672 zi_3 ?_
                                refine v_iadd hc dL_law_673 ?_
                                refine v_sld hc hX dL_law_674 fun x674 => ?_
                                refine v_cwI hc (m_V' (As := [.int x664, .int x669, .int x674]) (b := v2) (rest := [.int x656.1]) 3 hc hr (fun l D tys base => ct9_chance l D tys base x656.2 v2 x664 x669 x674) (fun x hx => ob9_chance hx) rfl s9_chance w_1496 rfl ⟨Nat.le_of_ble_eq_true rfl, Nat.le_of_ble_eq_true rfl⟩ ⟨by (try dsimp only [room_1]); omega, by (try dsimp only [room_1]); omega⟩ (Nat.le_of_ble_eq_true rfl) dL_law_675) fun x675 => ?_
                                refine v_icmp_eq hc 1430 dL_law_678 rfl ?_ ?_
                                · refine v_iincN (i := 3) (y := (9 : Int32)) (L' := fun z => [(3, .int z), (0, .ref b), (1, .ref v1), (2, .ref v2)]) hc 3 rfl dL_law_1430 zi_9 (hn 3 (Nat.le_of_ble_eq_true rfl)) (fun _ => rfl) fun x1430 => ?_
                                  refine v_goto hc 18 dL_law_1433 rfl ?_
                                  refine v_sub (L' := [(0, .ref b), (1, .ref v1), (2, .ref v2), (3, .int x1430)]) [1, 2, 3, 0] rfl ?_
                                  refine v_wide (k' := k + 20) (n' := s + 6938) (by omega) (by omega) ?_
                                  exact ih (k + 20) (s + 6938) (by omega) (by omega) x675.2 x1430
                                · refine v_iconst (x := (0 : Int32)) hc dL_law_681 zi_0 ?_
                                  exact v_lawret0 hc hr hq (by (try dsimp only [room_1]); omega) (by (try dsimp only [room_1]); omega) dL_law_682
                              · refine v_ite (fun q13 => ?_) (fun q13 => ?_)
                                · refine v_tIn hc (13 : Int32) q13 683 dL_law_33 (by decide) (by decide) rfl rfl ?_
                                  refine v_aload_n (i := 1) hc 1 rfl dL_law_683 rfl ?_
                                  refine v_aload_n (i := 0) hc 0 rfl dL_law_684 rfl ?_
                                  refine v_iload_n (i := 3) hc 3 rfl dL_law_685 rfl ?_
                                  refine v_iconst (x := (1 : Int32)) hc dL_law_686 zi_1 ?_
                                  refine v_iadd hc dL_law_687 ?_
                                  refine v_sld hc hX dL_law_688 fun x688 => ?_
                                  refine v_aload_n (i := 0) hc 0 rfl dL_law_689 rfl ?_
                                  refine v_iload_n (i := 3) hc 3 rfl dL_law_690 rfl ?_
                                  refine v_iconst (x := (2 : Int32)) hc dL_law_691 zi_2 ?_
                                  refine v_iadd hc dL_law_692 ?_
                                  refine v_sld hc hX dL_law_693 fun x693 => ?_
                                  refine v_aload_n (i := 0) hc 0 rfl dL_law_694 rfl ?_
                                  refine v_iload_n (i := 3) hc 3 rfl dL_law_695 rfl ?_
                                  refine v_iconst (x := (3 : Int32)) hc dL_law_696 zi_3 ?_
                                  refine v_iadd hc dL_law_697 ?_
                                  refine v_sld hc hX dL_law_698 fun x698 => ?_
                                  refine v_aload_n (i := 0) hc 0 rfl dL_law_699 rfl ?_
                                  refine v_iload_n (i := 3) hc 3 rfl dL_law_700 rfl ?_
                                  refine v_iconst (x := (4 : Int32)) hc dL_law_701 zi_4 ?_
                                  refine v_iadd hc dL_law_702 ?_
                                  refine v_sld hc hX dL_law_703 fun x703 => ?_
                                  refine v_cwI hc (m_V' (As := [.int x688, .int x693, .int x698, .int x703]) (b := v1) (rest := []) 4 hc hr (fun l D tys base => ct8_tells l D tys base h v1 x688 x693 x698 x703) (fun x hx => ob8_tells hx) rfl s8_tells w_862 rfl ⟨Nat.le_of_ble_eq_true rfl, Nat.le_of_ble_eq_true rfl⟩ ⟨by (try dsimp only [room_1]); omega, by (try dsimp only [room_1]); omega⟩ (Nat.le_of_ble_eq_true rfl) dL_law_704) fun x704 => ?_
                                  refine v_aload_n (i := 2) hc 2 rfl dL_law_707 rfl ?_
                                  refine v_aload_n (i := 0) hc 0 rfl dL_law_708 rfl ?_
                                  refine v_iload_n (i := 3) hc 3 rfl dL_law_709 rfl ?_
                                  refine v_iconst (x := (1 : Int32)) hc dL_law_710 zi_1 ?_
                                  refine v_iadd hc dL_law_711 ?_
                                  refine v_sld hc hX dL_law_712 fun x712 => ?_
                                  refine v_aload_n (i := 0) hc 0 rfl dL_law_713 rfl ?_
                                  refine v_iload_n (i := 3) hc 3 rfl dL_law_714 rfl ?_
                                  refine v_iconst (x := (2 : Int32)) hc dL_law_715 zi_2 ?_
                                  refine v_iadd hc dL_law_716 ?_
                                  refine v_sld hc hX dL_law_717 fun x717 => ?_
                                  refine v_aload_n (i := 0) hc 0 rfl dL_law_718 rfl ?_
                                  refine v_iload_n (i := 3) hc 3 rfl dL_law_719 rfl ?_
                                  refine v_iconst (x := (3 : Int32)) hc dL_law_720 zi_3 ?_
                                  refine v_iadd hc dL_law_721 ?_
                                  refine v_sld hc hX dL_law_722 fun x722 => ?_
                                  refine v_aload_n (i := 0) hc 0 rfl dL_law_723 rfl ?_
                                  refine v_iload_n (i := 3) hc 3 rfl dL_law_724 rfl ?_
                                  refine v_iconst (x := (4 : Int32)) hc dL_law_725 zi_4 ?_
                                  refine v_iadd hc dL_law_726 ?_
                                  refine v_sld hc hX dL_law_727 fun x727 => ?_
                                  refine v_cwI hc (m_V' (As := [.int x712, .int x717, .int x722, .int x727]) (b := v2) (rest := [.int x704.1]) 4 hc hr (fun l D tys base => ct9_tells l D tys base x704.2 v2 x712 x717 x722 x727) (fun x hx => ob9_tells hx) rfl s9_tells w_1536 rfl ⟨Nat.le_of_ble_eq_true rfl, Nat.le_of_ble_eq_true rfl⟩ ⟨by (try dsimp only [room_1]); omega, by (try dsimp only [room_1]); omega⟩ (Nat.le_of_ble_eq_true rfl) dL_law_728) fun x728 => ?_
                                  refine v_icmp_eq hc 1430 dL_law_731 rfl ?_ ?_
                                  · refine v_iincN (i := 3) (y := (9 : Int32)) (L' := fun z => [(3, .int z), (0, .ref b), (1, .ref v1), (2, .ref v2)]) hc 3 rfl dL_law_1430 zi_9 (hn 3 (Nat.le_of_ble_eq_true rfl)) (fun _ => rfl) fun x1430 => ?_
                                    refine v_goto hc 18 dL_law_1433 rfl ?_
                                    refine v_sub (L' := [(0, .ref b), (1, .ref v1), (2, .ref v2), (3, .int x1430)]) [1, 2, 3, 0] rfl ?_
                                    refine v_wide (k' := k + 20) (n' := s + 6938) (by omega) (by omega) ?_
                                    exact ih (k + 20) (s + 6938) (by omega) (by omega) x728.2 x1430
                                  · refine v_iconst (x := (0 : Int32)) hc dL_law_734 zi_0 ?_
                                    exact v_lawret0 hc hr hq (by (try dsimp only [room_1]); omega) (by (try dsimp only [room_1]); omega) dL_law_735
                                · refine v_ite (fun q14 => ?_) (fun q14 => ?_)
                                  · refine v_tIn hc (14 : Int32) q14 736 dL_law_33 (by decide) (by decide) rfl rfl ?_
                                    refine v_aload_n (i := 1) hc 1 rfl dL_law_736 rfl ?_
                                    refine v_aload_n (i := 0) hc 0 rfl dL_law_737 rfl ?_
                                    refine v_iload_n (i := 3) hc 3 rfl dL_law_738 rfl ?_
                                    refine v_iconst (x := (1 : Int32)) hc dL_law_739 zi_1 ?_
                                    refine v_iadd hc dL_law_740 ?_
                                    refine v_sld hc hX dL_law_741 fun x741 => ?_
                                    refine v_aload_n (i := 0) hc 0 rfl dL_law_742 rfl ?_
                                    refine v_iload_n (i := 3) hc 3 rfl dL_law_743 rfl ?_
                                    refine v_iconst (x := (2 : Int32)) hc dL_law_744 zi_2 ?_
                                    refine v_iadd hc dL_law_745 ?_
                                    refine v_sld hc hX dL_law_746 fun x746 => ?_
                                    refine v_aload_n (i := 0) hc 0 rfl dL_law_747 rfl ?_
                                    refine v_iload_n (i := 3) hc 3 rfl dL_law_748 rfl ?_
                                    refine v_iconst (x := (3 : Int32)) hc dL_law_749 zi_3 ?_
                                    refine v_iadd hc dL_law_750 ?_
                                    refine v_sld hc hX dL_law_751 fun x751 => ?_
                                    refine v_aload_n (i := 0) hc 0 rfl dL_law_752 rfl ?_
                                    refine v_iload_n (i := 3) hc 3 rfl dL_law_753 rfl ?_
                                    refine v_iconst (x := (4 : Int32)) hc dL_law_754 zi_4 ?_
                                    refine v_iadd hc dL_law_755 ?_
                                    refine v_sld hc hX dL_law_756 fun x756 => ?_
                                    refine v_cwI hc (m_V' (As := [.int x741, .int x746, .int x751, .int x756]) (b := v1) (rest := []) 4 hc hr (fun l D tys base => ct8_look l D tys base h v1 x741 x746 x751 x756) (fun x hx => ob8_look hx) rfl s8_look w_866 rfl ⟨Nat.le_of_ble_eq_true rfl, Nat.le_of_ble_eq_true rfl⟩ ⟨by (try dsimp only [room_1]); omega, by (try dsimp only [room_1]); omega⟩ (Nat.le_of_ble_eq_true rfl) dL_law_757) fun x757 => ?_
                                    refine v_aload_n (i := 2) hc 2 rfl dL_law_760 rfl ?_
                                    refine v_aload_n (i := 0) hc 0 rfl dL_law_761 rfl ?_
                                    refine v_iload_n (i := 3) hc 3 rfl dL_law_762 rfl ?_
                                    refine v_iconst (x := (1 : Int32)) hc dL_law_763 zi_1 ?_
                                    refine v_iadd hc dL_law_764 ?_
                                    refine v_sld hc hX dL_law_765 fun x765 => ?_
                                    refine v_aload_n (i := 0) hc 0 rfl dL_law_766 rfl ?_
                                    refine v_iload_n (i := 3) hc 3 rfl dL_law_767 rfl ?_
                                    refine v_iconst (x := (2 : Int32)) hc dL_law_768 zi_2 ?_
                                    refine v_iadd hc dL_law_769 ?_
                                    refine v_sld hc hX dL_law_770 fun x770 => ?_
                                    refine v_aload_n (i := 0) hc 0 rfl dL_law_771 rfl ?_
                                    refine v_iload_n (i := 3) hc 3 rfl dL_law_772 rfl ?_
                                    refine v_iconst (x := (3 : Int32)) hc dL_law_773 zi_3 ?_
                                    refine v_iadd hc dL_law_774 ?_
                                    refine v_sld hc hX dL_law_775 fun x775 => ?_
                                    refine v_aload_n (i := 0) hc 0 rfl dL_law_776 rfl ?_
                                    refine v_iload_n (i := 3) hc 3 rfl dL_law_777 rfl ?_
                                    refine v_iconst (x := (4 : Int32)) hc dL_law_778 zi_4 ?_
                                    refine v_iadd hc dL_law_779 ?_
                                    refine v_sld hc hX dL_law_780 fun x780 => ?_
                                    refine v_cwI hc (m_V' (As := [.int x765, .int x770, .int x775, .int x780]) (b := v2) (rest := [.int x757.1]) 4 hc hr (fun l D tys base => ct9_look l D tys base x757.2 v2 x765 x770 x775 x780) (fun x hx => ob9_look hx) rfl s9_look w_1540 rfl ⟨Nat.le_of_ble_eq_true rfl, Nat.le_of_ble_eq_true rfl⟩ ⟨by (try dsimp only [room_1]); omega, by (try dsimp only [room_1]); omega⟩ (Nat.le_of_ble_eq_true rfl) dL_law_781) fun x781 => ?_
                                    refine v_icmp_eq hc 1430 dL_law_784 rfl ?_ ?_
                                    · refine v_iincN (i := 3) (y := (9 : Int32)) (L' := fun z => [(3, .int z), (0, .ref b), (1, .ref v1), (2, .ref v2)]) hc 3 rfl dL_law_1430 zi_9 (hn 3 (Nat.le_of_ble_eq_true rfl)) (fun _ => rfl) fun x1430 => ?_
                                      refine v_goto hc 18 dL_law_1433 rfl ?_
                                      refine v_sub (L' := [(0, .ref b), (1, .ref v1), (2, .ref v2), (3, .int x1430)]) [1, 2, 3, 0] rfl ?_
                                      refine v_wide (k' := k + 20) (n' := s + 6938) (by omega) (by omega) ?_
                                      exact ih (k + 20) (s + 6938) (by omega) (by omega) x781.2 x1430
                                    · refine v_iconst (x := (0 : Int32)) hc dL_law_787 zi_0 ?_
                                      exact v_lawret0 hc hr hq (by (try dsimp only [room_1]); omega) (by (try dsimp only [room_1]); omega) dL_law_788
                                  · refine v_ite (fun q15 => ?_) (fun q15 => ?_)
                                    · refine v_tIn hc (15 : Int32) q15 789 dL_law_33 (by decide) (by decide) rfl rfl ?_
                                      refine v_aload_n (i := 1) hc 1 rfl dL_law_789 rfl ?_
                                      refine v_aload_n (i := 0) hc 0 rfl dL_law_790 rfl ?_
                                      refine v_iload_n (i := 3) hc 3 rfl dL_law_791 rfl ?_
                                      refine v_iconst (x := (1 : Int32)) hc dL_law_792 zi_1 ?_
                                      refine v_iadd hc dL_law_793 ?_
                                      refine v_sld hc hX dL_law_794 fun x794 => ?_
                                      refine v_aload_n (i := 0) hc 0 rfl dL_law_795 rfl ?_
                                      refine v_iload_n (i := 3) hc 3 rfl dL_law_796 rfl ?_
                                      refine v_iconst (x := (2 : Int32)) hc dL_law_797 zi_2 ?_
                                      refine v_iadd hc dL_law_798 ?_
                                      refine v_sld hc hX dL_law_799 fun x799 => ?_
                                      refine v_cwI hc (m_V' (As := [.int x794, .int x799]) (b := v1) (rest := []) 2 hc hr (fun l D tys base => ct8_test l D tys base h v1 x794 x799) (fun x hx => ob8_test hx) rfl s8_test w_884 rfl ⟨Nat.le_of_ble_eq_true rfl, Nat.le_of_ble_eq_true rfl⟩ ⟨by (try dsimp only [room_1]); omega, by (try dsimp only [room_1]); omega⟩ (Nat.le_of_ble_eq_true rfl) dL_law_800) fun x800 => ?_
                                      refine v_aload_n (i := 2) hc 2 rfl dL_law_803 rfl ?_
                                      refine v_aload_n (i := 0) hc 0 rfl dL_law_804 rfl ?_
                                      refine v_iload_n (i := 3) hc 3 rfl dL_law_805 rfl ?_
                                      refine v_iconst (x := (1 : Int32)) hc dL_law_806 zi_1 ?_
                                      refine v_iadd hc dL_law_807 ?_
                                      refine v_sld hc hX dL_law_808 fun x808 => ?_
                                      refine v_aload_n (i := 0) hc 0 rfl dL_law_809 rfl ?_
                                      refine v_iload_n (i := 3) hc 3 rfl dL_law_810 rfl ?_
                                      refine v_iconst (x := (2 : Int32)) hc dL_law_811 zi_2 ?_
                                      refine v_iadd hc dL_law_812 ?_
                                      refine v_sld hc hX dL_law_813 fun x813 => ?_
                                      refine v_cwI hc (m_V' (As := [.int x808, .int x813]) (b := v2) (rest := [.int x800.1]) 2 hc hr (fun l D tys base => ct9_test l D tys base x800.2 v2 x808 x813) (fun x hx => ob9_test hx) rfl s9_test w_1555 rfl ⟨Nat.le_of_ble_eq_true rfl, Nat.le_of_ble_eq_true rfl⟩ ⟨by (try dsimp only [room_1]); omega, by (try dsimp only [room_1]); omega⟩ (Nat.le_of_ble_eq_true rfl) dL_law_814) fun x814 => ?_
                                      refine v_icmp_eq hc 1430 dL_law_817 rfl ?_ ?_
                                      · refine v_iincN (i := 3) (y := (9 : Int32)) (L' := fun z => [(3, .int z), (0, .ref b), (1, .ref v1), (2, .ref v2)]) hc 3 rfl dL_law_1430 zi_9 (hn 3 (Nat.le_of_ble_eq_true rfl)) (fun _ => rfl) fun x1430 => ?_
                                        refine v_goto hc 18 dL_law_1433 rfl ?_
                                        refine v_sub (L' := [(0, .ref b), (1, .ref v1), (2, .ref v2), (3, .int x1430)]) [1, 2, 3, 0] rfl ?_
                                        refine v_wide (k' := k + 20) (n' := s + 6938) (by omega) (by omega) ?_
                                        exact ih (k + 20) (s + 6938) (by omega) (by omega) x814.2 x1430
                                      · refine v_iconst (x := (0 : Int32)) hc dL_law_820 zi_0 ?_
                                        exact v_lawret0 hc hr hq (by (try dsimp only [room_1]); omega) (by (try dsimp only [room_1]); omega) dL_law_821
                                    · refine v_ite (fun q16 => ?_) (fun q16 => ?_)
                                      · refine v_tIn hc (16 : Int32) q16 822 dL_law_33 (by decide) (by decide) rfl rfl ?_
                                        refine v_aload_n (i := 1) hc 1 rfl dL_law_822 rfl ?_
                                        refine v_aload_n (i := 0) hc 0 rfl dL_law_823 rfl ?_
                                        refine v_iload_n (i := 3) hc 3 rfl dL_law_824 rfl ?_
                                        refine v_iconst (x := (1 : Int32)) hc dL_law_825 zi_1 ?_
                                        refine v_iadd hc dL_law_826 ?_
                                        refine v_sld hc hX dL_law_827 fun x827 => ?_
                                        refine v_aload_n (i := 0) hc 0 rfl dL_law_828 rfl ?_
                                        refine v_iload_n (i := 3) hc 3 rfl dL_law_829 rfl ?_
                                        refine v_iconst (x := (2 : Int32)) hc dL_law_830 zi_2 ?_
                                        refine v_iadd hc dL_law_831 ?_
                                        refine v_sld hc hX dL_law_832 fun x832 => ?_
                                        refine v_cwI hc (m_V' (As := [.int x827, .int x832]) (b := v1) (rest := []) 2 hc hr (fun l D tys base => ct8_keep l D tys base h v1 x827 x832) (fun x hx => ob8_keep hx) rfl s8_keep w_889 rfl ⟨Nat.le_of_ble_eq_true rfl, Nat.le_of_ble_eq_true rfl⟩ ⟨by (try dsimp only [room_1]); omega, by (try dsimp only [room_1]); omega⟩ (Nat.le_of_ble_eq_true rfl) dL_law_833) fun x833 => ?_
                                        refine v_aload_n (i := 2) hc 2 rfl dL_law_836 rfl ?_
                                        refine v_aload_n (i := 0) hc 0 rfl dL_law_837 rfl ?_
                                        refine v_iload_n (i := 3) hc 3 rfl dL_law_838 rfl ?_
                                        refine v_iconst (x := (1 : Int32)) hc dL_law_839 zi_1 ?_
                                        refine v_iadd hc dL_law_840 ?_
                                        refine v_sld hc hX dL_law_841 fun x841 => ?_
                                        refine v_aload_n (i := 0) hc 0 rfl dL_law_842 rfl ?_
                                        refine v_iload_n (i := 3) hc 3 rfl dL_law_843 rfl ?_
                                        refine v_iconst (x := (2 : Int32)) hc dL_law_844 zi_2 ?_
                                        refine v_iadd hc dL_law_845 ?_
                                        refine v_sld hc hX dL_law_846 fun x846 => ?_
                                        refine v_cwI hc (m_V' (As := [.int x841, .int x846]) (b := v2) (rest := [.int x833.1]) 2 hc hr (fun l D tys base => ct9_keep l D tys base x833.2 v2 x841 x846) (fun x hx => ob9_keep hx) rfl s9_keep w_1559 rfl ⟨Nat.le_of_ble_eq_true rfl, Nat.le_of_ble_eq_true rfl⟩ ⟨by (try dsimp only [room_1]); omega, by (try dsimp only [room_1]); omega⟩ (Nat.le_of_ble_eq_true rfl) dL_law_847) fun x847 => ?_
                                        refine v_icmp_eq hc 1430 dL_law_850 rfl ?_ ?_
                                        · refine v_iincN (i := 3) (y := (9 : Int32)) (L' := fun z => [(3, .int z), (0, .ref b), (1, .ref v1), (2, .ref v2)]) hc 3 rfl dL_law_1430 zi_9 (hn 3 (Nat.le_of_ble_eq_true rfl)) (fun _ => rfl) fun x1430 => ?_
                                          refine v_goto hc 18 dL_law_1433 rfl ?_
                                          refine v_sub (L' := [(0, .ref b), (1, .ref v1), (2, .ref v2), (3, .int x1430)]) [1, 2, 3, 0] rfl ?_
                                          refine v_wide (k' := k + 20) (n' := s + 6938) (by omega) (by omega) ?_
                                          exact ih (k + 20) (s + 6938) (by omega) (by omega) x847.2 x1430
                                        · refine v_iconst (x := (0 : Int32)) hc dL_law_853 zi_0 ?_
                                          exact v_lawret0 hc hr hq (by (try dsimp only [room_1]); omega) (by (try dsimp only [room_1]); omega) dL_law_854
                                      · refine v_ite (fun q17 => ?_) (fun q17 => ?_)
                                        · refine v_tIn hc (17 : Int32) q17 855 dL_law_33 (by decide) (by decide) rfl rfl ?_
                                          refine v_aload_n (i := 1) hc 1 rfl dL_law_855 rfl ?_
                                          refine v_aload_n (i := 0) hc 0 rfl dL_law_856 rfl ?_
                                          refine v_iload_n (i := 3) hc 3 rfl dL_law_857 rfl ?_
                                          refine v_iconst (x := (1 : Int32)) hc dL_law_858 zi_1 ?_
                                          refine v_iadd hc dL_law_859 ?_
                                          refine v_sld hc hX dL_law_860 fun x860 => ?_
                                          refine v_aload_n (i := 0) hc 0 rfl dL_law_861 rfl ?_
                                          refine v_iload_n (i := 3) hc 3 rfl dL_law_862 rfl ?_
                                          refine v_iconst (x := (2 : Int32)) hc dL_law_863 zi_2 ?_
                                          refine v_iadd hc dL_law_864 ?_
                                          refine v_sld hc hX dL_law_865 fun x865 => ?_
                                          refine v_cI hc (m_V' (As := [.int x860, .int x865]) (b := v1) (rest := []) 2 hc hr (fun l D tys base => ct8_stand l D tys base h v1 x860 x865) (fun x hx => ob8_stand hx) rfl s8_stand w_893 rfl ⟨Nat.le_of_ble_eq_true rfl, Nat.le_of_ble_eq_true rfl⟩ ⟨by (try dsimp only [room_1]); omega, by (try dsimp only [room_1]); omega⟩ (Nat.le_of_ble_eq_true rfl) dL_law_866) fun x866 => ?_
                                          refine v_aload_n (i := 2) hc 2 rfl dL_law_869 rfl ?_
                                          refine v_aload_n (i := 0) hc 0 rfl dL_law_870 rfl ?_
                                          refine v_iload_n (i := 3) hc 3 rfl dL_law_871 rfl ?_
                                          refine v_iconst (x := (1 : Int32)) hc dL_law_872 zi_1 ?_
                                          refine v_iadd hc dL_law_873 ?_
                                          refine v_sld hc hX dL_law_874 fun x874 => ?_
                                          refine v_aload_n (i := 0) hc 0 rfl dL_law_875 rfl ?_
                                          refine v_iload_n (i := 3) hc 3 rfl dL_law_876 rfl ?_
                                          refine v_iconst (x := (2 : Int32)) hc dL_law_877 zi_2 ?_
                                          refine v_iadd hc dL_law_878 ?_
                                          refine v_sld hc hX dL_law_879 fun x879 => ?_
                                          refine v_cI hc (m_V' (As := [.int x874, .int x879]) (b := v2) (rest := [.int x866]) 2 hc hr (fun l D tys base => ct9_stand l D tys base h v2 x874 x879) (fun x hx => ob9_stand hx) rfl s9_stand w_1566 rfl ⟨Nat.le_of_ble_eq_true rfl, Nat.le_of_ble_eq_true rfl⟩ ⟨by (try dsimp only [room_1]); omega, by (try dsimp only [room_1]); omega⟩ (Nat.le_of_ble_eq_true rfl) dL_law_880) fun x880 => ?_
                                          refine v_icmp_eq hc 1430 dL_law_883 rfl ?_ ?_
                                          · refine v_iincN (i := 3) (y := (9 : Int32)) (L' := fun z => [(3, .int z), (0, .ref b), (1, .ref v1), (2, .ref v2)]) hc 3 rfl dL_law_1430 zi_9 (hn 3 (Nat.le_of_ble_eq_true rfl)) (fun _ => rfl) fun x1430 => ?_
                                            refine v_goto hc 18 dL_law_1433 rfl ?_
                                            refine v_sub (L' := [(0, .ref b), (1, .ref v1), (2, .ref v2), (3, .int x1430)]) [1, 2, 3, 0] rfl ?_
                                            refine v_wide (k' := k + 20) (n' := s + 6938) (by omega) (by omega) ?_
                                            exact ih (k + 20) (s + 6938) (by omega) (by omega) h x1430
                                          · refine v_iconst (x := (0 : Int32)) hc dL_law_886 zi_0 ?_
                                            exact v_lawret0 hc hr hq (by (try dsimp only [room_1]); omega) (by (try dsimp only [room_1]); omega) dL_law_887
                                        · refine v_ite (fun q18 => ?_) (fun q18 => ?_)
                                          · refine v_tIn hc (18 : Int32) q18 888 dL_law_33 (by decide) (by decide) rfl rfl ?_
                                            refine v_aload_n (i := 1) hc 1 rfl dL_law_888 rfl ?_
                                            refine v_aload_n (i := 0) hc 0 rfl dL_law_889 rfl ?_
                                            refine v_iload_n (i := 3) hc 3 rfl dL_law_890 rfl ?_
                                            refine v_iconst (x := (1 : Int32)) hc dL_law_891 zi_1 ?_
                                            refine v_iadd hc dL_law_892 ?_
                                            refine v_sld hc hX dL_law_893 fun x893 => ?_
                                            refine v_cI hc (m_V' (As := [.int x893]) (b := v1) (rest := []) 1 hc hr (fun l D tys base => ct8_cost l D tys base h v1 x893) (fun x hx => ob8_cost hx) rfl s8_cost w_902 rfl ⟨Nat.le_of_ble_eq_true rfl, Nat.le_of_ble_eq_true rfl⟩ ⟨by (try dsimp only [room_1]); omega, by (try dsimp only [room_1]); omega⟩ (Nat.le_of_ble_eq_true rfl) dL_law_894) fun x894 => ?_
                                            refine v_aload_n (i := 2) hc 2 rfl dL_law_897 rfl ?_
                                            refine v_aload_n (i := 0) hc 0 rfl dL_law_898 rfl ?_
                                            refine v_iload_n (i := 3) hc 3 rfl dL_law_899 rfl ?_
                                            refine v_iconst (x := (1 : Int32)) hc dL_law_900 zi_1 ?_
                                            refine v_iadd hc dL_law_901 ?_
                                            refine v_sld hc hX dL_law_902 fun x902 => ?_
                                            refine v_cI hc (m_V' (As := [.int x902]) (b := v2) (rest := [.int x894]) 1 hc hr (fun l D tys base => ct9_cost l D tys base h v2 x902) (fun x hx => ob9_cost hx) rfl s9_cost w_1574 rfl ⟨Nat.le_of_ble_eq_true rfl, Nat.le_of_ble_eq_true rfl⟩ ⟨by (try dsimp only [room_1]); omega, by (try dsimp only [room_1]); omega⟩ (Nat.le_of_ble_eq_true rfl) dL_law_903) fun x903 => ?_
                                            refine v_icmp_eq hc 1430 dL_law_906 rfl ?_ ?_
                                            · refine v_iincN (i := 3) (y := (9 : Int32)) (L' := fun z => [(3, .int z), (0, .ref b), (1, .ref v1), (2, .ref v2)]) hc 3 rfl dL_law_1430 zi_9 (hn 3 (Nat.le_of_ble_eq_true rfl)) (fun _ => rfl) fun x1430 => ?_
                                              refine v_goto hc 18 dL_law_1433 rfl ?_
                                              refine v_sub (L' := [(0, .ref b), (1, .ref v1), (2, .ref v2), (3, .int x1430)]) [1, 2, 3, 0] rfl ?_
                                              refine v_wide (k' := k + 20) (n' := s + 6938) (by omega) (by omega) ?_
                                              exact ih (k + 20) (s + 6938) (by omega) (by omega) h x1430
                                            · refine v_iconst (x := (0 : Int32)) hc dL_law_909 zi_0 ?_
                                              exact v_lawret0 hc hr hq (by (try dsimp only [room_1]); omega) (by (try dsimp only [room_1]); omega) dL_law_910
                                          · refine v_ite (fun q19 => ?_) (fun q19 => ?_)
                                            · refine v_tIn hc (19 : Int32) q19 911 dL_law_33 (by decide) (by decide) rfl rfl ?_
                                              refine v_aload_n (i := 1) hc 1 rfl dL_law_911 rfl ?_
                                              refine v_aload_n (i := 0) hc 0 rfl dL_law_912 rfl ?_
                                              refine v_iload_n (i := 3) hc 3 rfl dL_law_913 rfl ?_
                                              refine v_iconst (x := (1 : Int32)) hc dL_law_914 zi_1 ?_
                                              refine v_iadd hc dL_law_915 ?_
                                              refine v_sld hc hX dL_law_916 fun x916 => ?_
                                              refine v_cI hc (m_V' (As := [.int x916]) (b := v1) (rest := []) 1 hc hr (fun l D tys base => ct8_cheapest l D tys base h v1 x916) (fun x hx => ob8_cheapest hx) rfl s8_cheapest w_910 rfl ⟨Nat.le_of_ble_eq_true rfl, Nat.le_of_ble_eq_true rfl⟩ ⟨by (try dsimp only [room_1]); omega, by (try dsimp only [room_1]); omega⟩ (Nat.le_of_ble_eq_true rfl) dL_law_917) fun x917 => ?_
                                              refine v_aload_n (i := 2) hc 2 rfl dL_law_920 rfl ?_
                                              refine v_aload_n (i := 0) hc 0 rfl dL_law_921 rfl ?_
                                              refine v_iload_n (i := 3) hc 3 rfl dL_law_922 rfl ?_
                                              refine v_iconst (x := (1 : Int32)) hc dL_law_923 zi_1 ?_
                                              refine v_iadd hc dL_law_924 ?_
                                              refine v_sld hc hX dL_law_925 fun x925 => ?_
                                              refine v_cI hc (m_V' (As := [.int x925]) (b := v2) (rest := [.int x917]) 1 hc hr (fun l D tys base => ct9_cheapest l D tys base h v2 x925) (fun x hx => ob9_cheapest hx) rfl s9_cheapest w_1578 rfl ⟨Nat.le_of_ble_eq_true rfl, Nat.le_of_ble_eq_true rfl⟩ ⟨by (try dsimp only [room_1]); omega, by (try dsimp only [room_1]); omega⟩ (Nat.le_of_ble_eq_true rfl) dL_law_926) fun x926 => ?_
                                              refine v_icmp_eq hc 1430 dL_law_929 rfl ?_ ?_
                                              · refine v_iincN (i := 3) (y := (9 : Int32)) (L' := fun z => [(3, .int z), (0, .ref b), (1, .ref v1), (2, .ref v2)]) hc 3 rfl dL_law_1430 zi_9 (hn 3 (Nat.le_of_ble_eq_true rfl)) (fun _ => rfl) fun x1430 => ?_
                                                refine v_goto hc 18 dL_law_1433 rfl ?_
                                                refine v_sub (L' := [(0, .ref b), (1, .ref v1), (2, .ref v2), (3, .int x1430)]) [1, 2, 3, 0] rfl ?_
                                                refine v_wide (k' := k + 20) (n' := s + 6938) (by omega) (by omega) ?_
                                                exact ih (k + 20) (s + 6938) (by omega) (by omega) h x1430
                                              · refine v_iconst (x := (0 : Int32)) hc dL_law_932 zi_0 ?_
                                                exact v_lawret0 hc hr hq (by (try dsimp only [room_1]); omega) (by (try dsimp only [room_1]); omega) dL_law_933
                                            · refine v_ite (fun q20 => ?_) (fun q20 => ?_)
                                              · refine v_tIn hc (20 : Int32) q20 934 dL_law_33 (by decide) (by decide) rfl rfl ?_
                                                refine v_aload_n (i := 1) hc 1 rfl dL_law_934 rfl ?_
                                                refine v_aload_n (i := 0) hc 0 rfl dL_law_935 rfl ?_
                                                refine v_iload_n (i := 3) hc 3 rfl dL_law_936 rfl ?_
                                                refine v_iconst (x := (1 : Int32)) hc dL_law_937 zi_1 ?_
                                                refine v_iadd hc dL_law_938 ?_
                                                refine v_sld hc hX dL_law_939 fun x939 => ?_
                                                refine v_cI hc (m_V' (As := [.int x939]) (b := v1) (rest := []) 1 hc hr (fun l D tys base => ct8_likely l D tys base h v1 x939) (fun x hx => ob8_likely hx) rfl s8_likely w_918 rfl ⟨Nat.le_of_ble_eq_true rfl, Nat.le_of_ble_eq_true rfl⟩ ⟨by (try dsimp only [room_1]); omega, by (try dsimp only [room_1]); omega⟩ (Nat.le_of_ble_eq_true rfl) dL_law_940) fun x940 => ?_
                                                refine v_aload_n (i := 2) hc 2 rfl dL_law_943 rfl ?_
                                                refine v_aload_n (i := 0) hc 0 rfl dL_law_944 rfl ?_
                                                refine v_iload_n (i := 3) hc 3 rfl dL_law_945 rfl ?_
                                                refine v_iconst (x := (1 : Int32)) hc dL_law_946 zi_1 ?_
                                                refine v_iadd hc dL_law_947 ?_
                                                refine v_sld hc hX dL_law_948 fun x948 => ?_
                                                refine v_cI hc (m_V' (As := [.int x948]) (b := v2) (rest := [.int x940]) 1 hc hr (fun l D tys base => ct9_likely l D tys base h v2 x948) (fun x hx => ob9_likely hx) rfl s9_likely w_1582 rfl ⟨Nat.le_of_ble_eq_true rfl, Nat.le_of_ble_eq_true rfl⟩ ⟨by (try dsimp only [room_1]); omega, by (try dsimp only [room_1]); omega⟩ (Nat.le_of_ble_eq_true rfl) dL_law_949) fun x949 => ?_
                                                refine v_icmp_eq hc 1430 dL_law_952 rfl ?_ ?_
                                                · refine v_iincN (i := 3) (y := (9 : Int32)) (L' := fun z => [(3, .int z), (0, .ref b), (1, .ref v1), (2, .ref v2)]) hc 3 rfl dL_law_1430 zi_9 (hn 3 (Nat.le_of_ble_eq_true rfl)) (fun _ => rfl) fun x1430 => ?_
                                                  refine v_goto hc 18 dL_law_1433 rfl ?_
                                                  refine v_sub (L' := [(0, .ref b), (1, .ref v1), (2, .ref v2), (3, .int x1430)]) [1, 2, 3, 0] rfl ?_
                                                  refine v_wide (k' := k + 20) (n' := s + 6938) (by omega) (by omega) ?_
                                                  exact ih (k + 20) (s + 6938) (by omega) (by omega) h x1430
                                                · refine v_iconst (x := (0 : Int32)) hc dL_law_955 zi_0 ?_
                                                  exact v_lawret0 hc hr hq (by (try dsimp only [room_1]); omega) (by (try dsimp only [room_1]); omega) dL_law_956
                                              · refine v_ite (fun q21 => ?_) (fun q21 => ?_)
                                                · refine v_tIn hc (21 : Int32) q21 957 dL_law_33 (by decide) (by decide) rfl rfl ?_
                                                  refine v_aload_n (i := 1) hc 1 rfl dL_law_957 rfl ?_
                                                  refine v_aload_n (i := 0) hc 0 rfl dL_law_958 rfl ?_
                                                  refine v_iload_n (i := 3) hc 3 rfl dL_law_959 rfl ?_
                                                  refine v_iconst (x := (1 : Int32)) hc dL_law_960 zi_1 ?_
                                                  refine v_iadd hc dL_law_961 ?_
                                                  refine v_sld hc hX dL_law_962 fun x962 => ?_
                                                  refine v_aload_n (i := 0) hc 0 rfl dL_law_963 rfl ?_
                                                  refine v_iload_n (i := 3) hc 3 rfl dL_law_964 rfl ?_
                                                  refine v_iconst (x := (2 : Int32)) hc dL_law_965 zi_2 ?_
                                                  refine v_iadd hc dL_law_966 ?_
                                                  refine v_sld hc hX dL_law_967 fun x967 => ?_
                                                  refine v_cI hc (m_V' (As := [.int x962, .int x967]) (b := v1) (rest := []) 2 hc hr (fun l D tys base => ct8_kin l D tys base h v1 x962 x967) (fun x hx => ob8_kin hx) rfl s8_kin w_927 rfl ⟨Nat.le_of_ble_eq_true rfl, Nat.le_of_ble_eq_true rfl⟩ ⟨by (try dsimp only [room_1]); omega, by (try dsimp only [room_1]); omega⟩ (Nat.le_of_ble_eq_true rfl) dL_law_968) fun x968 => ?_
                                                  refine v_aload_n (i := 2) hc 2 rfl dL_law_971 rfl ?_
                                                  refine v_aload_n (i := 0) hc 0 rfl dL_law_972 rfl ?_
                                                  refine v_iload_n (i := 3) hc 3 rfl dL_law_973 rfl ?_
                                                  refine v_iconst (x := (1 : Int32)) hc dL_law_974 zi_1 ?_
                                                  refine v_iadd hc dL_law_975 ?_
                                                  refine v_sld hc hX dL_law_976 fun x976 => ?_
                                                  refine v_aload_n (i := 0) hc 0 rfl dL_law_977 rfl ?_
                                                  refine v_iload_n (i := 3) hc 3 rfl dL_law_978 rfl ?_
                                                  refine v_iconst (x := (2 : Int32)) hc dL_law_979 zi_2 ?_
                                                  refine v_iadd hc dL_law_980 ?_
                                                  refine v_sld hc hX dL_law_981 fun x981 => ?_
                                                  refine v_cI hc (m_V' (As := [.int x976, .int x981]) (b := v2) (rest := [.int x968]) 2 hc hr (fun l D tys base => ct9_kin l D tys base h v2 x976 x981) (fun x hx => ob9_kin hx) rfl s9_kin w_1586 rfl ⟨Nat.le_of_ble_eq_true rfl, Nat.le_of_ble_eq_true rfl⟩ ⟨by (try dsimp only [room_1]); omega, by (try dsimp only [room_1]); omega⟩ (Nat.le_of_ble_eq_true rfl) dL_law_982) fun x982 => ?_
                                                  refine v_icmp_eq hc 1430 dL_law_985 rfl ?_ ?_
                                                  · refine v_iincN (i := 3) (y := (9 : Int32)) (L' := fun z => [(3, .int z), (0, .ref b), (1, .ref v1), (2, .ref v2)]) hc 3 rfl dL_law_1430 zi_9 (hn 3 (Nat.le_of_ble_eq_true rfl)) (fun _ => rfl) fun x1430 => ?_
                                                    refine v_goto hc 18 dL_law_1433 rfl ?_
                                                    refine v_sub (L' := [(0, .ref b), (1, .ref v1), (2, .ref v2), (3, .int x1430)]) [1, 2, 3, 0] rfl ?_
                                                    refine v_wide (k' := k + 20) (n' := s + 6938) (by omega) (by omega) ?_
                                                    exact ih (k + 20) (s + 6938) (by omega) (by omega) h x1430
                                                  · refine v_iconst (x := (0 : Int32)) hc dL_law_988 zi_0 ?_
                                                    exact v_lawret0 hc hr hq (by (try dsimp only [room_1]); omega) (by (try dsimp only [room_1]); omega) dL_law_989
                                                · refine v_ite (fun q22 => ?_) (fun q22 => ?_)
                                                  · refine v_tIn hc (22 : Int32) q22 990 dL_law_33 (by decide) (by decide) rfl rfl ?_
                                                    refine v_aload_n (i := 1) hc 1 rfl dL_law_990 rfl ?_
                                                    refine v_aload_n (i := 0) hc 0 rfl dL_law_991 rfl ?_
                                                    refine v_iload_n (i := 3) hc 3 rfl dL_law_992 rfl ?_
                                                    refine v_iconst (x := (1 : Int32)) hc dL_law_993 zi_1 ?_
                                                    refine v_iadd hc dL_law_994 ?_
                                                    refine v_sld hc hX dL_law_995 fun x995 => ?_
                                                    refine v_cI hc (m_V' (As := [.int x995]) (b := v1) (rest := []) 1 hc hr (fun l D tys base => ct8_could l D tys base h v1 x995) (fun x hx => ob8_could hx) rfl s8_could w_941 rfl ⟨Nat.le_of_ble_eq_true rfl, Nat.le_of_ble_eq_true rfl⟩ ⟨by (try dsimp only [room_1]); omega, by (try dsimp only [room_1]); omega⟩ (Nat.le_of_ble_eq_true rfl) dL_law_996) fun x996 => ?_
                                                    refine v_aload_n (i := 2) hc 2 rfl dL_law_999 rfl ?_
                                                    refine v_aload_n (i := 0) hc 0 rfl dL_law_1000 rfl ?_
                                                    refine v_iload_n (i := 3) hc 3 rfl dL_law_1001 rfl ?_
                                                    refine v_iconst (x := (1 : Int32)) hc dL_law_1002 zi_1 ?_
                                                    refine v_iadd hc dL_law_1003 ?_
                                                    refine v_sld hc hX dL_law_1004 fun x1004 => ?_
                                                    refine v_cI hc (m_V' (As := [.int x1004]) (b := v2) (rest := [.int x996]) 1 hc hr (fun l D tys base => ct9_could l D tys base h v2 x1004) (fun x hx => ob9_could hx) rfl s9_could w_1590 rfl ⟨Nat.le_of_ble_eq_true rfl, Nat.le_of_ble_eq_true rfl⟩ ⟨by (try dsimp only [room_1]); omega, by (try dsimp only [room_1]); omega⟩ (Nat.le_of_ble_eq_true rfl) dL_law_1005) fun x1005 => ?_
                                                    refine v_icmp_eq hc 1430 dL_law_1008 rfl ?_ ?_
                                                    · refine v_iincN (i := 3) (y := (9 : Int32)) (L' := fun z => [(3, .int z), (0, .ref b), (1, .ref v1), (2, .ref v2)]) hc 3 rfl dL_law_1430 zi_9 (hn 3 (Nat.le_of_ble_eq_true rfl)) (fun _ => rfl) fun x1430 => ?_
                                                      refine v_goto hc 18 dL_law_1433 rfl ?_
                                                      refine v_sub (L' := [(0, .ref b), (1, .ref v1), (2, .ref v2), (3, .int x1430)]) [1, 2, 3, 0] rfl ?_
                                                      refine v_wide (k' := k + 20) (n' := s + 6938) (by omega) (by omega) ?_
                                                      exact ih (k + 20) (s + 6938) (by omega) (by omega) h x1430
                                                    · refine v_iconst (x := (0 : Int32)) hc dL_law_1011 zi_0 ?_
                                                      exact v_lawret0 hc hr hq (by (try dsimp only [room_1]); omega) (by (try dsimp only [room_1]); omega) dL_law_1012
                                                  · refine v_ite (fun q23 => ?_) (fun q23 => ?_)
                                                    · refine v_tIn hc (23 : Int32) q23 1013 dL_law_33 (by decide) (by decide) rfl rfl ?_
                                                      refine v_aload_n (i := 1) hc 1 rfl dL_law_1013 rfl ?_
                                                      refine v_aload_n (i := 0) hc 0 rfl dL_law_1014 rfl ?_
                                                      refine v_iload_n (i := 3) hc 3 rfl dL_law_1015 rfl ?_
                                                      refine v_iconst (x := (1 : Int32)) hc dL_law_1016 zi_1 ?_
                                                      refine v_iadd hc dL_law_1017 ?_
                                                      refine v_sld hc hX dL_law_1018 fun x1018 => ?_
                                                      refine v_aload_n (i := 0) hc 0 rfl dL_law_1019 rfl ?_
                                                      refine v_iload_n (i := 3) hc 3 rfl dL_law_1020 rfl ?_
                                                      refine v_iconst (x := (2 : Int32)) hc dL_law_1021 zi_2 ?_
                                                      refine v_iadd hc dL_law_1022 ?_
                                                      refine v_sld hc hX dL_law_1023 fun x1023 => ?_
                                                      refine v_cI hc (m_V' (As := [.int x1018, .int x1023]) (b := v1) (rest := []) 2 hc hr (fun l D tys base => ct8_outrun l D tys base h v1 x1018 x1023) (fun x hx => ob8_outrun hx) rfl s8_outrun w_963 rfl ⟨Nat.le_of_ble_eq_true rfl, Nat.le_of_ble_eq_true rfl⟩ ⟨by (try dsimp only [room_1]); omega, by (try dsimp only [room_1]); omega⟩ (Nat.le_of_ble_eq_true rfl) dL_law_1024) fun x1024 => ?_
                                                      refine v_aload_n (i := 2) hc 2 rfl dL_law_1027 rfl ?_
                                                      refine v_aload_n (i := 0) hc 0 rfl dL_law_1028 rfl ?_
                                                      refine v_iload_n (i := 3) hc 3 rfl dL_law_1029 rfl ?_
                                                      refine v_iconst (x := (1 : Int32)) hc dL_law_1030 zi_1 ?_
                                                      refine v_iadd hc dL_law_1031 ?_
                                                      refine v_sld hc hX dL_law_1032 fun x1032 => ?_
                                                      refine v_aload_n (i := 0) hc 0 rfl dL_law_1033 rfl ?_
                                                      refine v_iload_n (i := 3) hc 3 rfl dL_law_1034 rfl ?_
                                                      refine v_iconst (x := (2 : Int32)) hc dL_law_1035 zi_2 ?_
                                                      refine v_iadd hc dL_law_1036 ?_
                                                      refine v_sld hc hX dL_law_1037 fun x1037 => ?_
                                                      refine v_cI hc (m_V' (As := [.int x1032, .int x1037]) (b := v2) (rest := [.int x1024]) 2 hc hr (fun l D tys base => ct9_outrun l D tys base h v2 x1032 x1037) (fun x hx => ob9_outrun hx) rfl s9_outrun w_1598 rfl ⟨Nat.le_of_ble_eq_true rfl, Nat.le_of_ble_eq_true rfl⟩ ⟨by (try dsimp only [room_1]); omega, by (try dsimp only [room_1]); omega⟩ (Nat.le_of_ble_eq_true rfl) dL_law_1038) fun x1038 => ?_
                                                      refine v_icmp_eq hc 1430 dL_law_1041 rfl ?_ ?_
                                                      · refine v_iincN (i := 3) (y := (9 : Int32)) (L' := fun z => [(3, .int z), (0, .ref b), (1, .ref v1), (2, .ref v2)]) hc 3 rfl dL_law_1430 zi_9 (hn 3 (Nat.le_of_ble_eq_true rfl)) (fun _ => rfl) fun x1430 => ?_
                                                        refine v_goto hc 18 dL_law_1433 rfl ?_
                                                        refine v_sub (L' := [(0, .ref b), (1, .ref v1), (2, .ref v2), (3, .int x1430)]) [1, 2, 3, 0] rfl ?_
                                                        refine v_wide (k' := k + 20) (n' := s + 6938) (by omega) (by omega) ?_
                                                        exact ih (k + 20) (s + 6938) (by omega) (by omega) h x1430
                                                      · refine v_iconst (x := (0 : Int32)) hc dL_law_1044 zi_0 ?_
                                                        exact v_lawret0 hc hr hq (by (try dsimp only [room_1]); omega) (by (try dsimp only [room_1]); omega) dL_law_1045
                                                    · refine v_ite (fun q24 => ?_) (fun q24 => ?_)
                                                      · refine v_tIn hc (24 : Int32) q24 1046 dL_law_33 (by decide) (by decide) rfl rfl ?_
                                                        refine v_aload_n (i := 1) hc 1 rfl dL_law_1046 rfl ?_
                                                        refine v_cI hc (m_V' (As := []) (b := v1) (rest := []) 0 hc hr (fun l D tys base => ct8_grows l D tys base h v1) (fun x hx => ob8_grows hx) rfl s8_grows w_975 rfl ⟨Nat.le_of_ble_eq_true rfl, Nat.le_of_ble_eq_true rfl⟩ ⟨by (try dsimp only [room_1]); omega, by (try dsimp only [room_1]); omega⟩ (Nat.le_of_ble_eq_true rfl) dL_law_1047) fun x1047 => ?_
                                                        refine v_aload_n (i := 2) hc 2 rfl dL_law_1050 rfl ?_
                                                        refine v_cwI hc (m_V' (As := []) (b := v2) (rest := [.int x1047]) 0 hc hr (fun l D tys base => ct9_grows l D tys base h v2) (fun x hx => ob9_grows hx) rfl s9_grows w_1606 rfl ⟨Nat.le_of_ble_eq_true rfl, Nat.le_of_ble_eq_true rfl⟩ ⟨by (try dsimp only [room_1]); omega, by (try dsimp only [room_1]); omega⟩ (Nat.le_of_ble_eq_true rfl) dL_law_1051) fun x1051 => ?_
                                                        refine v_icmp_eq hc 1430 dL_law_1054 rfl ?_ ?_
                                                        · refine v_iincN (i := 3) (y := (9 : Int32)) (L' := fun z => [(3, .int z), (0, .ref b), (1, .ref v1), (2, .ref v2)]) hc 3 rfl dL_law_1430 zi_9 (hn 3 (Nat.le_of_ble_eq_true rfl)) (fun _ => rfl) fun x1430 => ?_
                                                          refine v_goto hc 18 dL_law_1433 rfl ?_
                                                          refine v_sub (L' := [(0, .ref b), (1, .ref v1), (2, .ref v2), (3, .int x1430)]) [1, 2, 3, 0] rfl ?_
                                                          refine v_wide (k' := k + 20) (n' := s + 6938) (by omega) (by omega) ?_
                                                          exact ih (k + 20) (s + 6938) (by omega) (by omega) x1051.2 x1430
                                                        · refine v_iconst (x := (0 : Int32)) hc dL_law_1057 zi_0 ?_
                                                          exact v_lawret0 hc hr hq (by (try dsimp only [room_1]); omega) (by (try dsimp only [room_1]); omega) dL_law_1058
                                                      · refine v_ite (fun q25 => ?_) (fun q25 => ?_)
                                                        · refine v_tIn hc (25 : Int32) q25 1059 dL_law_33 (by decide) (by decide) rfl rfl ?_
                                                          refine v_aload_n (i := 1) hc 1 rfl dL_law_1059 rfl ?_
                                                          refine v_aload_n (i := 0) hc 0 rfl dL_law_1060 rfl ?_
                                                          refine v_iload_n (i := 3) hc 3 rfl dL_law_1061 rfl ?_
                                                          refine v_iconst (x := (1 : Int32)) hc dL_law_1062 zi_1 ?_
                                                          refine v_iadd hc dL_law_1063 ?_
                                                          refine v_sld hc hX dL_law_1064 fun x1064 => ?_
                                                          refine v_aload_n (i := 0) hc 0 rfl dL_law_1065 rfl ?_
                                                          refine v_iload_n (i := 3) hc 3 rfl dL_law_1066 rfl ?_
                                                          refine v_iconst (x := (2 : Int32)) hc dL_law_1067 zi_2 ?_
                                                          refine v_iadd hc dL_law_1068 ?_
                                                          refine v_sld hc hX dL_law_1069 fun x1069 => ?_
                                                          refine v_aload_n (i := 0) hc 0 rfl dL_law_1070 rfl ?_
                                                          refine v_iload_n (i := 3) hc 3 rfl dL_law_1071 rfl ?_
                                                          refine v_iconst (x := (3 : Int32)) hc dL_law_1072 zi_3 ?_
                                                          refine v_iadd hc dL_law_1073 ?_
                                                          refine v_sld hc hX dL_law_1074 fun x1074 => ?_
                                                          refine v_aload_n (i := 0) hc 0 rfl dL_law_1075 rfl ?_
                                                          refine v_iload_n (i := 3) hc 3 rfl dL_law_1076 rfl ?_
                                                          refine v_iconst (x := (4 : Int32)) hc dL_law_1077 zi_4 ?_
                                                          refine v_iadd hc dL_law_1078 ?_
                                                          refine v_sld hc hX dL_law_1079 fun x1079 => ?_
                                                          refine v_aload_n (i := 0) hc 0 rfl dL_law_1080 rfl ?_
                                                          refine v_iload_n (i := 3) hc 3 rfl dL_law_1081 rfl ?_
                                                          refine v_iconst (x := (5 : Int32)) hc dL_law_1082 zi_5 ?_
                                                          refine v_iadd hc dL_law_1083 ?_
                                                          refine v_sld hc hX dL_law_1084 fun x1084 => ?_
                                                          refine v_cwI hc (m_V' (As := [.int x1064, .int x1069, .int x1074, .int x1079, .int x1084]) (b := v1) (rest := []) 5 hc hr (fun l D tys base => ct8_make l D tys base h v1 x1064 x1069 x1074 x1079 x1084) (fun x hx => ob8_make hx) rfl s8_make w_990 rfl ⟨Nat.le_of_ble_eq_true rfl, Nat.le_of_ble_eq_true rfl⟩ ⟨by (try dsimp only [room_1]); omega, by (try dsimp only [room_1]); omega⟩ (Nat.le_of_ble_eq_true rfl) dL_law_1085) fun x1085 => ?_
                                                          refine v_aload_n (i := 2) hc 2 rfl dL_law_1088 rfl ?_
                                                          refine v_aload_n (i := 0) hc 0 rfl dL_law_1089 rfl ?_
                                                          refine v_iload_n (i := 3) hc 3 rfl dL_law_1090 rfl ?_
                                                          refine v_iconst (x := (1 : Int32)) hc dL_law_1091 zi_1 ?_
                                                          refine v_iadd hc dL_law_1092 ?_
                                                          refine v_sld hc hX dL_law_1093 fun x1093 => ?_
                                                          refine v_aload_n (i := 0) hc 0 rfl dL_law_1094 rfl ?_
                                                          refine v_iload_n (i := 3) hc 3 rfl dL_law_1095 rfl ?_
                                                          refine v_iconst (x := (2 : Int32)) hc dL_law_1096 zi_2 ?_
                                                          refine v_iadd hc dL_law_1097 ?_
                                                          refine v_sld hc hX dL_law_1098 fun x1098 => ?_
                                                          refine v_aload_n (i := 0) hc 0 rfl dL_law_1099 rfl ?_
                                                          refine v_iload_n (i := 3) hc 3 rfl dL_law_1100 rfl ?_
                                                          refine v_iconst (x := (3 : Int32)) hc dL_law_1101 zi_3 ?_
                                                          refine v_iadd hc dL_law_1102 ?_
                                                          refine v_sld hc hX dL_law_1103 fun x1103 => ?_
                                                          refine v_aload_n (i := 0) hc 0 rfl dL_law_1104 rfl ?_
                                                          refine v_iload_n (i := 3) hc 3 rfl dL_law_1105 rfl ?_
                                                          refine v_iconst (x := (4 : Int32)) hc dL_law_1106 zi_4 ?_
                                                          refine v_iadd hc dL_law_1107 ?_
                                                          refine v_sld hc hX dL_law_1108 fun x1108 => ?_
                                                          refine v_aload_n (i := 0) hc 0 rfl dL_law_1109 rfl ?_
                                                          refine v_iload_n (i := 3) hc 3 rfl dL_law_1110 rfl ?_
                                                          refine v_iconst (x := (5 : Int32)) hc dL_law_1111 zi_5 ?_
                                                          refine v_iadd hc dL_law_1112 ?_
                                                          refine v_sld hc hX dL_law_1113 fun x1113 => ?_
                                                          refine v_cwI hc (m_V' (As := [.int x1093, .int x1098, .int x1103, .int x1108, .int x1113]) (b := v2) (rest := [.int x1085.1]) 5 hc hr (fun l D tys base => ct9_make l D tys base x1085.2 v2 x1093 x1098 x1103 x1108 x1113) (fun x hx => ob9_make hx) rfl s9_make w_1610 rfl ⟨Nat.le_of_ble_eq_true rfl, Nat.le_of_ble_eq_true rfl⟩ ⟨by (try dsimp only [room_1]); omega, by (try dsimp only [room_1]); omega⟩ (Nat.le_of_ble_eq_true rfl) dL_law_1114) fun x1114 => ?_
                                                          refine v_icmp_eq hc 1430 dL_law_1117 rfl ?_ ?_
                                                          · refine v_iincN (i := 3) (y := (9 : Int32)) (L' := fun z => [(3, .int z), (0, .ref b), (1, .ref v1), (2, .ref v2)]) hc 3 rfl dL_law_1430 zi_9 (hn 3 (Nat.le_of_ble_eq_true rfl)) (fun _ => rfl) fun x1430 => ?_
                                                            refine v_goto hc 18 dL_law_1433 rfl ?_
                                                            refine v_sub (L' := [(0, .ref b), (1, .ref v1), (2, .ref v2), (3, .int x1430)]) [1, 2, 3, 0] rfl ?_
                                                            refine v_wide (k' := k + 20) (n' := s + 6938) (by omega) (by omega) ?_
                                                            exact ih (k + 20) (s + 6938) (by omega) (by omega) x1114.2 x1430
                                                          · refine v_iconst (x := (0 : Int32)) hc dL_law_1120 zi_0 ?_
                                                            exact v_lawret0 hc hr hq (by (try dsimp only [room_1]); omega) (by (try dsimp only [room_1]); omega) dL_law_1121
                                                        · refine v_ite (fun q26 => ?_) (fun q26 => ?_)
                                                          · refine v_tIn hc (26 : Int32) q26 1122 dL_law_33 (by decide) (by decide) rfl rfl ?_
                                                            refine v_aload_n (i := 1) hc 1 rfl dL_law_1122 rfl ?_
                                                            refine v_aload_n (i := 0) hc 0 rfl dL_law_1123 rfl ?_
                                                            refine v_iload_n (i := 3) hc 3 rfl dL_law_1124 rfl ?_
                                                            refine v_iconst (x := (1 : Int32)) hc dL_law_1125 zi_1 ?_
                                                            refine v_iadd hc dL_law_1126 ?_
                                                            refine v_sld hc hX dL_law_1127 fun x1127 => ?_
                                                            refine v_aload_n (i := 0) hc 0 rfl dL_law_1128 rfl ?_
                                                            refine v_iload_n (i := 3) hc 3 rfl dL_law_1129 rfl ?_
                                                            refine v_iconst (x := (2 : Int32)) hc dL_law_1130 zi_2 ?_
                                                            refine v_iadd hc dL_law_1131 ?_
                                                            refine v_sld hc hX dL_law_1132 fun x1132 => ?_
                                                            refine v_aload_n (i := 0) hc 0 rfl dL_law_1133 rfl ?_
                                                            refine v_iload_n (i := 3) hc 3 rfl dL_law_1134 rfl ?_
                                                            refine v_iconst (x := (3 : Int32)) hc dL_law_1135 zi_3 ?_
                                                            refine v_iadd hc dL_law_1136 ?_
                                                            refine v_sld hc hX dL_law_1137 fun x1137 => ?_
                                                            refine v_aload_n (i := 0) hc 0 rfl dL_law_1138 rfl ?_
                                                            refine v_iload_n (i := 3) hc 3 rfl dL_law_1139 rfl ?_
                                                            refine v_iconst (x := (4 : Int32)) hc dL_law_1140 zi_4 ?_
                                                            refine v_iadd hc dL_law_1141 ?_
                                                            refine v_sld hc hX dL_law_1142 fun x1142 => ?_
                                                            refine v_cwL hc (m_V' (As := [.int x1127, .int x1132, .int x1137, .int x1142]) (b := v1) (rest := []) 4 hc hr (fun l D tys base => ct8_soonest l D tys base h v1 x1127 x1132 x1137 x1142) (fun x hx => ob8_soonest hx) rfl s8_soonest w_1010 rfl ⟨Nat.le_of_ble_eq_true rfl, Nat.le_of_ble_eq_true rfl⟩ ⟨by (try dsimp only [room_1]); omega, by (try dsimp only [room_1]); omega⟩ (Nat.le_of_ble_eq_true rfl) dL_law_1143) fun x1143 => ?_
                                                            refine v_aload_n (i := 2) hc 2 rfl dL_law_1146 rfl ?_
                                                            refine v_aload_n (i := 0) hc 0 rfl dL_law_1147 rfl ?_
                                                            refine v_iload_n (i := 3) hc 3 rfl dL_law_1148 rfl ?_
                                                            refine v_iconst (x := (1 : Int32)) hc dL_law_1149 zi_1 ?_
                                                            refine v_iadd hc dL_law_1150 ?_
                                                            refine v_sld hc hX dL_law_1151 fun x1151 => ?_
                                                            refine v_aload_n (i := 0) hc 0 rfl dL_law_1152 rfl ?_
                                                            refine v_iload_n (i := 3) hc 3 rfl dL_law_1153 rfl ?_
                                                            refine v_iconst (x := (2 : Int32)) hc dL_law_1154 zi_2 ?_
                                                            refine v_iadd hc dL_law_1155 ?_
                                                            refine v_sld hc hX dL_law_1156 fun x1156 => ?_
                                                            refine v_aload_n (i := 0) hc 0 rfl dL_law_1157 rfl ?_
                                                            refine v_iload_n (i := 3) hc 3 rfl dL_law_1158 rfl ?_
                                                            refine v_iconst (x := (3 : Int32)) hc dL_law_1159 zi_3 ?_
                                                            refine v_iadd hc dL_law_1160 ?_
                                                            refine v_sld hc hX dL_law_1161 fun x1161 => ?_
                                                            refine v_aload_n (i := 0) hc 0 rfl dL_law_1162 rfl ?_
                                                            refine v_iload_n (i := 3) hc 3 rfl dL_law_1163 rfl ?_
                                                            refine v_iconst (x := (4 : Int32)) hc dL_law_1164 zi_4 ?_
                                                            refine v_iadd hc dL_law_1165 ?_
                                                            refine v_sld hc hX dL_law_1166 fun x1166 => ?_
                                                            refine v_cwL hc (m_V' (As := [.int x1151, .int x1156, .int x1161, .int x1166]) (b := v2) (rest := [.long x1143.1]) 4 hc hr (fun l D tys base => ct9_soonest l D tys base x1143.2 v2 x1151 x1156 x1161 x1166) (fun x hx => ob9_soonest hx) rfl s9_soonest w_1623 rfl ⟨Nat.le_of_ble_eq_true rfl, Nat.le_of_ble_eq_true rfl⟩ ⟨by (try dsimp only [room_1]); omega, by (try dsimp only [room_1]); omega⟩ (Nat.le_of_ble_eq_true rfl) dL_law_1167) fun x1167 => ?_
                                                            refine v_lcmp_eq hc 1430 dL_law_1170 dL_law_1171 rfl ?_ ?_
                                                            · refine v_iincN (i := 3) (y := (9 : Int32)) (L' := fun z => [(3, .int z), (0, .ref b), (1, .ref v1), (2, .ref v2)]) hc 3 rfl dL_law_1430 zi_9 (hn 3 (Nat.le_of_ble_eq_true rfl)) (fun _ => rfl) fun x1430 => ?_
                                                              refine v_goto hc 18 dL_law_1433 rfl ?_
                                                              refine v_sub (L' := [(0, .ref b), (1, .ref v1), (2, .ref v2), (3, .int x1430)]) [1, 2, 3, 0] rfl ?_
                                                              refine v_wide (k' := k + 20) (n' := s + 6938) (by omega) (by omega) ?_
                                                              exact ih (k + 20) (s + 6938) (by omega) (by omega) x1167.2 x1430
                                                            · refine v_iconst (x := (0 : Int32)) hc dL_law_1174 zi_0 ?_
                                                              exact v_lawret0 hc hr hq (by (try dsimp only [room_1]); omega) (by (try dsimp only [room_1]); omega) dL_law_1175
                                                          · refine v_ite (fun q27 => ?_) (fun q27 => ?_)
                                                            · refine v_tIn hc (27 : Int32) q27 1176 dL_law_33 (by decide) (by decide) rfl rfl ?_
                                                              refine v_aload_n (i := 1) hc 1 rfl dL_law_1176 rfl ?_
                                                              refine v_aload_n (i := 0) hc 0 rfl dL_law_1177 rfl ?_
                                                              refine v_iload_n (i := 3) hc 3 rfl dL_law_1178 rfl ?_
                                                              refine v_iconst (x := (1 : Int32)) hc dL_law_1179 zi_1 ?_
                                                              refine v_iadd hc dL_law_1180 ?_
                                                              refine v_sld hc hX dL_law_1181 fun x1181 => ?_
                                                              refine v_aload_n (i := 0) hc 0 rfl dL_law_1182 rfl ?_
                                                              refine v_iload_n (i := 3) hc 3 rfl dL_law_1183 rfl ?_
                                                              refine v_iconst (x := (2 : Int32)) hc dL_law_1184 zi_2 ?_
                                                              refine v_iadd hc dL_law_1185 ?_
                                                              refine v_sld hc hX dL_law_1186 fun x1186 => ?_
                                                              refine v_aload_n (i := 0) hc 0 rfl dL_law_1187 rfl ?_
                                                              refine v_iload_n (i := 3) hc 3 rfl dL_law_1188 rfl ?_
                                                              refine v_iconst (x := (3 : Int32)) hc dL_law_1189 zi_3 ?_
                                                              refine v_iadd hc dL_law_1190 ?_
                                                              refine v_sld hc hX dL_law_1191 fun x1191 => ?_
                                                              refine v_cwI hc (m_V' (As := [.int x1181, .int x1186, .int x1191]) (b := v1) (rest := []) 3 hc hr (fun l D tys base => ct8_surest l D tys base h v1 x1181 x1186 x1191) (fun x hx => ob8_surest hx) rfl s8_surest w_1055 rfl ⟨Nat.le_of_ble_eq_true rfl, Nat.le_of_ble_eq_true rfl⟩ ⟨by (try dsimp only [room_1]); omega, by (try dsimp only [room_1]); omega⟩ (Nat.le_of_ble_eq_true rfl) dL_law_1192) fun x1192 => ?_
                                                              refine v_aload_n (i := 2) hc 2 rfl dL_law_1195 rfl ?_
                                                              refine v_aload_n (i := 0) hc 0 rfl dL_law_1196 rfl ?_
                                                              refine v_iload_n (i := 3) hc 3 rfl dL_law_1197 rfl ?_
                                                              refine v_iconst (x := (1 : Int32)) hc dL_law_1198 zi_1 ?_
                                                              refine v_iadd hc dL_law_1199 ?_
                                                              refine v_sld hc hX dL_law_1200 fun x1200 => ?_
                                                              refine v_aload_n (i := 0) hc 0 rfl dL_law_1201 rfl ?_
                                                              refine v_iload_n (i := 3) hc 3 rfl dL_law_1202 rfl ?_
                                                              refine v_iconst (x := (2 : Int32)) hc dL_law_1203 zi_2 ?_
                                                              refine v_iadd hc dL_law_1204 ?_
                                                              refine v_sld hc hX dL_law_1205 fun x1205 => ?_
                                                              refine v_aload_n (i := 0) hc 0 rfl dL_law_1206 rfl ?_
                                                              refine v_iload_n (i := 3) hc 3 rfl dL_law_1207 rfl ?_
                                                              refine v_iconst (x := (3 : Int32)) hc dL_law_1208 zi_3 ?_
                                                              refine v_iadd hc dL_law_1209 ?_
                                                              refine v_sld hc hX dL_law_1210 fun x1210 => ?_
                                                              refine v_cwI hc (m_V' (As := [.int x1200, .int x1205, .int x1210]) (b := v2) (rest := [.int x1192.1]) 3 hc hr (fun l D tys base => ct9_surest l D tys base x1192.2 v2 x1200 x1205 x1210) (fun x hx => ob9_surest hx) rfl s9_surest w_1640 rfl ⟨Nat.le_of_ble_eq_true rfl, Nat.le_of_ble_eq_true rfl⟩ ⟨by (try dsimp only [room_1]); omega, by (try dsimp only [room_1]); omega⟩ (Nat.le_of_ble_eq_true rfl) dL_law_1211) fun x1211 => ?_
                                                              refine v_icmp_eq hc 1430 dL_law_1214 rfl ?_ ?_
                                                              · refine v_iincN (i := 3) (y := (9 : Int32)) (L' := fun z => [(3, .int z), (0, .ref b), (1, .ref v1), (2, .ref v2)]) hc 3 rfl dL_law_1430 zi_9 (hn 3 (Nat.le_of_ble_eq_true rfl)) (fun _ => rfl) fun x1430 => ?_
                                                                refine v_goto hc 18 dL_law_1433 rfl ?_
                                                                refine v_sub (L' := [(0, .ref b), (1, .ref v1), (2, .ref v2), (3, .int x1430)]) [1, 2, 3, 0] rfl ?_
                                                                refine v_wide (k' := k + 20) (n' := s + 6938) (by omega) (by omega) ?_
                                                                exact ih (k + 20) (s + 6938) (by omega) (by omega) x1211.2 x1430
                                                              · refine v_iconst (x := (0 : Int32)) hc dL_law_1217 zi_0 ?_
                                                                exact v_lawret0 hc hr hq (by (try dsimp only [room_1]); omega) (by (try dsimp only [room_1]); omega) dL_law_1218
                                                            · refine v_ite (fun q28 => ?_) (fun q28 => ?_)
                                                              · refine v_tIn hc (28 : Int32) q28 1219 dL_law_33 (by decide) (by decide) rfl rfl ?_
                                                                refine v_aload_n (i := 1) hc 1 rfl dL_law_1219 rfl ?_
                                                                refine v_aload_n (i := 0) hc 0 rfl dL_law_1220 rfl ?_
                                                                refine v_iload_n (i := 3) hc 3 rfl dL_law_1221 rfl ?_
                                                                refine v_iconst (x := (1 : Int32)) hc dL_law_1222 zi_1 ?_
                                                                refine v_iadd hc dL_law_1223 ?_
                                                                refine v_sld hc hX dL_law_1224 fun x1224 => ?_
                                                                refine v_aload_n (i := 0) hc 0 rfl dL_law_1225 rfl ?_
                                                                refine v_iload_n (i := 3) hc 3 rfl dL_law_1226 rfl ?_
                                                                refine v_iconst (x := (2 : Int32)) hc dL_law_1227 zi_2 ?_
                                                                refine v_iadd hc dL_law_1228 ?_
                                                                refine v_sld hc hX dL_law_1229 fun x1229 => ?_
                                                                refine v_aload_n (i := 0) hc 0 rfl dL_law_1230 rfl ?_
                                                                refine v_iload_n (i := 3) hc 3 rfl dL_law_1231 rfl ?_
                                                                refine v_iconst (x := (3 : Int32)) hc dL_law_1232 zi_3 ?_
                                                                refine v_iadd hc dL_law_1233 ?_
                                                                refine v_sld hc hX dL_law_1234 fun x1234 => ?_
                                                                refine v_aload_n (i := 0) hc 0 rfl dL_law_1235 rfl ?_
                                                                refine v_iload_n (i := 3) hc 3 rfl dL_law_1236 rfl ?_
                                                                refine v_iconst (x := (4 : Int32)) hc dL_law_1237 zi_4 ?_
                                                                refine v_iadd hc dL_law_1238 ?_
                                                                refine v_sld hc hX dL_law_1239 fun x1239 => ?_
                                                                refine v_cwI hc (m_V' (As := [.int x1224, .int x1229, .int x1234, .int x1239]) (b := v1) (rest := []) 4 hc hr (fun l D tys base => ct8_person l D tys base h v1 x1224 x1229 x1234 x1239) (fun x hx => ob8_person hx) rfl s8_person w_1071 rfl ⟨Nat.le_of_ble_eq_true rfl, Nat.le_of_ble_eq_true rfl⟩ ⟨by (try dsimp only [room_1]); omega, by (try dsimp only [room_1]); omega⟩ (Nat.le_of_ble_eq_true rfl) dL_law_1240) fun x1240 => ?_
                                                                refine v_aload_n (i := 2) hc 2 rfl dL_law_1243 rfl ?_
                                                                refine v_aload_n (i := 0) hc 0 rfl dL_law_1244 rfl ?_
                                                                refine v_iload_n (i := 3) hc 3 rfl dL_law_1245 rfl ?_
                                                                refine v_iconst (x := (1 : Int32)) hc dL_law_1246 zi_1 ?_
                                                                refine v_iadd hc dL_law_1247 ?_
                                                                refine v_sld hc hX dL_law_1248 fun x1248 => ?_
                                                                refine v_aload_n (i := 0) hc 0 rfl dL_law_1249 rfl ?_
                                                                refine v_iload_n (i := 3) hc 3 rfl dL_law_1250 rfl ?_
                                                                refine v_iconst (x := (2 : Int32)) hc dL_law_1251 zi_2 ?_
                                                                refine v_iadd hc dL_law_1252 ?_
                                                                refine v_sld hc hX dL_law_1253 fun x1253 => ?_
                                                                refine v_aload_n (i := 0) hc 0 rfl dL_law_1254 rfl ?_
                                                                refine v_iload_n (i := 3) hc 3 rfl dL_law_1255 rfl ?_
                                                                refine v_iconst (x := (3 : Int32)) hc dL_law_1256 zi_3 ?_
                                                                refine v_iadd hc dL_law_1257 ?_
                                                                refine v_sld hc hX dL_law_1258 fun x1258 => ?_
                                                                refine v_aload_n (i := 0) hc 0 rfl dL_law_1259 rfl ?_
                                                                refine v_iload_n (i := 3) hc 3 rfl dL_law_1260 rfl ?_
                                                                refine v_iconst (x := (4 : Int32)) hc dL_law_1261 zi_4 ?_
                                                                refine v_iadd hc dL_law_1262 ?_
                                                                refine v_sld hc hX dL_law_1263 fun x1263 => ?_
                                                                refine v_cwI hc (m_V' (As := [.int x1248, .int x1253, .int x1258, .int x1263]) (b := v2) (rest := [.int x1240.1]) 4 hc hr (fun l D tys base => ct9_person l D tys base x1240.2 v2 x1248 x1253 x1258 x1263) (fun x hx => ob9_person hx) rfl s9_person w_1644 rfl ⟨Nat.le_of_ble_eq_true rfl, Nat.le_of_ble_eq_true rfl⟩ ⟨by (try dsimp only [room_1]); omega, by (try dsimp only [room_1]); omega⟩ (Nat.le_of_ble_eq_true rfl) dL_law_1264) fun x1264 => ?_
                                                                refine v_icmp_eq hc 1430 dL_law_1267 rfl ?_ ?_
                                                                · refine v_iincN (i := 3) (y := (9 : Int32)) (L' := fun z => [(3, .int z), (0, .ref b), (1, .ref v1), (2, .ref v2)]) hc 3 rfl dL_law_1430 zi_9 (hn 3 (Nat.le_of_ble_eq_true rfl)) (fun _ => rfl) fun x1430 => ?_
                                                                  refine v_goto hc 18 dL_law_1433 rfl ?_
                                                                  refine v_sub (L' := [(0, .ref b), (1, .ref v1), (2, .ref v2), (3, .int x1430)]) [1, 2, 3, 0] rfl ?_
                                                                  refine v_wide (k' := k + 20) (n' := s + 6938) (by omega) (by omega) ?_
                                                                  exact ih (k + 20) (s + 6938) (by omega) (by omega) x1264.2 x1430
                                                                · refine v_iconst (x := (0 : Int32)) hc dL_law_1270 zi_0 ?_
                                                                  exact v_lawret0 hc hr hq (by (try dsimp only [room_1]); omega) (by (try dsimp only [room_1]); omega) dL_law_1271
                                                              · refine v_ite (fun q29 => ?_) (fun q29 => ?_)
                                                                · refine v_tIn hc (29 : Int32) q29 1272 dL_law_33 (by decide) (by decide) rfl rfl ?_
                                                                  refine v_aload_n (i := 1) hc 1 rfl dL_law_1272 rfl ?_
                                                                  refine v_aload_n (i := 0) hc 0 rfl dL_law_1273 rfl ?_
                                                                  refine v_iload_n (i := 3) hc 3 rfl dL_law_1274 rfl ?_
                                                                  refine v_iconst (x := (1 : Int32)) hc dL_law_1275 zi_1 ?_
                                                                  refine v_iadd hc dL_law_1276 ?_
                                                                  refine v_sld hc hX dL_law_1277 fun x1277 => ?_
                                                                  refine v_cwB hc (m_V' (As := [.int x1277]) (b := v1) (rest := []) 1 hc hr (fun l D tys base => ct8_ask l D tys base h v1 x1277) (fun x hx => ob8_ask hx) rfl s8_ask w_1075 rfl ⟨Nat.le_of_ble_eq_true rfl, Nat.le_of_ble_eq_true rfl⟩ ⟨by (try dsimp only [room_1]); omega, by (try dsimp only [room_1]); omega⟩ (Nat.le_of_ble_eq_true rfl) dL_law_1278) fun x1278 => ?_
                                                                  refine v_aload_n (i := 2) hc 2 rfl dL_law_1281 rfl ?_
                                                                  refine v_aload_n (i := 0) hc 0 rfl dL_law_1282 rfl ?_
                                                                  refine v_iload_n (i := 3) hc 3 rfl dL_law_1283 rfl ?_
                                                                  refine v_iconst (x := (1 : Int32)) hc dL_law_1284 zi_1 ?_
                                                                  refine v_iadd hc dL_law_1285 ?_
                                                                  refine v_sld hc hX dL_law_1286 fun x1286 => ?_
                                                                  refine v_cwB hc (m_V' (As := [.int x1286]) (b := v2) (rest := [.int (bI x1278.1)]) 1 hc hr (fun l D tys base => ct9_ask l D tys base x1278.2 v2 x1286) (fun x hx => ob9_ask hx) rfl s9_ask w_1649 rfl ⟨Nat.le_of_ble_eq_true rfl, Nat.le_of_ble_eq_true rfl⟩ ⟨by (try dsimp only [room_1]); omega, by (try dsimp only [room_1]); omega⟩ (Nat.le_of_ble_eq_true rfl) dL_law_1287) fun x1287 => ?_
                                                                  refine v_icmp_eq hc 1430 dL_law_1290 rfl ?_ ?_
                                                                  · refine v_iincN (i := 3) (y := (9 : Int32)) (L' := fun z => [(3, .int z), (0, .ref b), (1, .ref v1), (2, .ref v2)]) hc 3 rfl dL_law_1430 zi_9 (hn 3 (Nat.le_of_ble_eq_true rfl)) (fun _ => rfl) fun x1430 => ?_
                                                                    refine v_goto hc 18 dL_law_1433 rfl ?_
                                                                    refine v_sub (L' := [(0, .ref b), (1, .ref v1), (2, .ref v2), (3, .int x1430)]) [1, 2, 3, 0] rfl ?_
                                                                    refine v_wide (k' := k + 20) (n' := s + 6938) (by omega) (by omega) ?_
                                                                    exact ih (k + 20) (s + 6938) (by omega) (by omega) x1287.2 x1430
                                                                  · refine v_iconst (x := (0 : Int32)) hc dL_law_1293 zi_0 ?_
                                                                    exact v_lawret0 hc hr hq (by (try dsimp only [room_1]); omega) (by (try dsimp only [room_1]); omega) dL_law_1294
                                                                · refine v_ite (fun q30 => ?_) (fun q30 => ?_)
                                                                  · refine v_tIn hc (30 : Int32) q30 1295 dL_law_33 (by decide) (by decide) rfl rfl ?_
                                                                    refine v_aload_n (i := 1) hc 1 rfl dL_law_1295 rfl ?_
                                                                    refine v_aload_n (i := 0) hc 0 rfl dL_law_1296 rfl ?_
                                                                    refine v_iload_n (i := 3) hc 3 rfl dL_law_1297 rfl ?_
                                                                    refine v_iconst (x := (1 : Int32)) hc dL_law_1298 zi_1 ?_
                                                                    refine v_iadd hc dL_law_1299 ?_
                                                                    refine v_sld hc hX dL_law_1300 fun x1300 => ?_
                                                                    refine v_aload_n (i := 0) hc 0 rfl dL_law_1301 rfl ?_
                                                                    refine v_iload_n (i := 3) hc 3 rfl dL_law_1302 rfl ?_
                                                                    refine v_iconst (x := (2 : Int32)) hc dL_law_1303 zi_2 ?_
                                                                    refine v_iadd hc dL_law_1304 ?_
                                                                    refine v_sld hc hX dL_law_1305 fun x1305 => ?_
                                                                    refine v_cI hc (m_V' (As := [.int x1300, .int x1305]) (b := v1) (rest := []) 2 hc hr (fun l D tys base => ct8_unasked l D tys base h v1 x1300 x1305) (fun x hx => ob8_unasked hx) rfl s8_unasked w_1079 rfl ⟨Nat.le_of_ble_eq_true rfl, Nat.le_of_ble_eq_true rfl⟩ ⟨by (try dsimp only [room_1]); omega, by (try dsimp only [room_1]); omega⟩ (Nat.le_of_ble_eq_true rfl) dL_law_1306) fun x1306 => ?_
                                                                    refine v_aload_n (i := 2) hc 2 rfl dL_law_1309 rfl ?_
                                                                    refine v_aload_n (i := 0) hc 0 rfl dL_law_1310 rfl ?_
                                                                    refine v_iload_n (i := 3) hc 3 rfl dL_law_1311 rfl ?_
                                                                    refine v_iconst (x := (1 : Int32)) hc dL_law_1312 zi_1 ?_
                                                                    refine v_iadd hc dL_law_1313 ?_
                                                                    refine v_sld hc hX dL_law_1314 fun x1314 => ?_
                                                                    refine v_aload_n (i := 0) hc 0 rfl dL_law_1315 rfl ?_
                                                                    refine v_iload_n (i := 3) hc 3 rfl dL_law_1316 rfl ?_
                                                                    refine v_iconst (x := (2 : Int32)) hc dL_law_1317 zi_2 ?_
                                                                    refine v_iadd hc dL_law_1318 ?_
                                                                    refine v_sld hc hX dL_law_1319 fun x1319 => ?_
                                                                    refine v_cI hc (m_V' (As := [.int x1314, .int x1319]) (b := v2) (rest := [.int x1306]) 2 hc hr (fun l D tys base => ct9_unasked l D tys base h v2 x1314 x1319) (fun x hx => ob9_unasked hx) rfl s9_unasked w_1657 rfl ⟨Nat.le_of_ble_eq_true rfl, Nat.le_of_ble_eq_true rfl⟩ ⟨by (try dsimp only [room_1]); omega, by (try dsimp only [room_1]); omega⟩ (Nat.le_of_ble_eq_true rfl) dL_law_1320) fun x1320 => ?_
                                                                    refine v_icmp_eq hc 1430 dL_law_1323 rfl ?_ ?_
                                                                    · refine v_iincN (i := 3) (y := (9 : Int32)) (L' := fun z => [(3, .int z), (0, .ref b), (1, .ref v1), (2, .ref v2)]) hc 3 rfl dL_law_1430 zi_9 (hn 3 (Nat.le_of_ble_eq_true rfl)) (fun _ => rfl) fun x1430 => ?_
                                                                      refine v_goto hc 18 dL_law_1433 rfl ?_
                                                                      refine v_sub (L' := [(0, .ref b), (1, .ref v1), (2, .ref v2), (3, .int x1430)]) [1, 2, 3, 0] rfl ?_
                                                                      refine v_wide (k' := k + 20) (n' := s + 6938) (by omega) (by omega) ?_
                                                                      exact ih (k + 20) (s + 6938) (by omega) (by omega) h x1430
                                                                    · refine v_iconst (x := (0 : Int32)) hc dL_law_1326 zi_0 ?_
                                                                      exact v_lawret0 hc hr hq (by (try dsimp only [room_1]); omega) (by (try dsimp only [room_1]); omega) dL_law_1327
                                                                  · refine v_ite (fun q31 => ?_) (fun q31 => ?_)
                                                                    · refine v_tIn hc (31 : Int32) q31 1328 dL_law_33 (by decide) (by decide) rfl rfl ?_
                                                                      refine v_aload_n (i := 1) hc 1 rfl dL_law_1328 rfl ?_
                                                                      refine v_aload_n (i := 0) hc 0 rfl dL_law_1329 rfl ?_
                                                                      refine v_iload_n (i := 3) hc 3 rfl dL_law_1330 rfl ?_
                                                                      refine v_iconst (x := (1 : Int32)) hc dL_law_1331 zi_1 ?_
                                                                      refine v_iadd hc dL_law_1332 ?_
                                                                      refine v_sld hc hX dL_law_1333 fun x1333 => ?_
                                                                      refine v_aload_n (i := 0) hc 0 rfl dL_law_1334 rfl ?_
                                                                      refine v_iload_n (i := 3) hc 3 rfl dL_law_1335 rfl ?_
                                                                      refine v_iconst (x := (2 : Int32)) hc dL_law_1336 zi_2 ?_
                                                                      refine v_iadd hc dL_law_1337 ?_
                                                                      refine v_sld hc hX dL_law_1338 fun x1338 => ?_
                                                                      refine v_cI hc (m_V' (As := [.int x1333, .int x1338]) (b := v1) (rest := []) 2 hc hr (fun l D tys base => ct8_gain l D tys base h v1 x1333 x1338) (fun x hx => ob8_gain hx) rfl s8_gain w_1092 rfl ⟨Nat.le_of_ble_eq_true rfl, Nat.le_of_ble_eq_true rfl⟩ ⟨by (try dsimp only [room_1]); omega, by (try dsimp only [room_1]); omega⟩ (Nat.le_of_ble_eq_true rfl) dL_law_1339) fun x1339 => ?_
                                                                      refine v_aload_n (i := 2) hc 2 rfl dL_law_1342 rfl ?_
                                                                      refine v_aload_n (i := 0) hc 0 rfl dL_law_1343 rfl ?_
                                                                      refine v_iload_n (i := 3) hc 3 rfl dL_law_1344 rfl ?_
                                                                      refine v_iconst (x := (1 : Int32)) hc dL_law_1345 zi_1 ?_
                                                                      refine v_iadd hc dL_law_1346 ?_
                                                                      refine v_sld hc hX dL_law_1347 fun x1347 => ?_
                                                                      refine v_aload_n (i := 0) hc 0 rfl dL_law_1348 rfl ?_
                                                                      refine v_iload_n (i := 3) hc 3 rfl dL_law_1349 rfl ?_
                                                                      refine v_iconst (x := (2 : Int32)) hc dL_law_1350 zi_2 ?_
                                                                      refine v_iadd hc dL_law_1351 ?_
                                                                      refine v_sld hc hX dL_law_1352 fun x1352 => ?_
                                                                      refine v_cI hc (m_V' (As := [.int x1347, .int x1352]) (b := v2) (rest := [.int x1339]) 2 hc hr (fun l D tys base => ct9_gain l D tys base h v2 x1347 x1352) (fun x hx => ob9_gain hx) rfl s9_gain w_1665 rfl ⟨Nat.le_of_ble_eq_true rfl, Nat.le_of_ble_eq_true rfl⟩ ⟨by (try dsimp only [room_1]); omega, by (try dsimp only [room_1]); omega⟩ (Nat.le_of_ble_eq_true rfl) dL_law_1353) fun x1353 => ?_
                                                                      refine v_icmp_eq hc 1430 dL_law_1356 rfl ?_ ?_
                                                                      · refine v_iincN (i := 3) (y := (9 : Int32)) (L' := fun z => [(3, .int z), (0, .ref b), (1, .ref v1), (2, .ref v2)]) hc 3 rfl dL_law_1430 zi_9 (hn 3 (Nat.le_of_ble_eq_true rfl)) (fun _ => rfl) fun x1430 => ?_
                                                                        refine v_goto hc 18 dL_law_1433 rfl ?_
                                                                        refine v_sub (L' := [(0, .ref b), (1, .ref v1), (2, .ref v2), (3, .int x1430)]) [1, 2, 3, 0] rfl ?_
                                                                        refine v_wide (k' := k + 20) (n' := s + 6938) (by omega) (by omega) ?_
                                                                        exact ih (k + 20) (s + 6938) (by omega) (by omega) h x1430
                                                                      · refine v_iconst (x := (0 : Int32)) hc dL_law_1359 zi_0 ?_
                                                                        exact v_lawret0 hc hr hq (by (try dsimp only [room_1]); omega) (by (try dsimp only [room_1]); omega) dL_law_1360
                                                                    · refine v_ite (fun q32 => ?_) (fun q32 => ?_)
                                                                      · refine v_tIn hc (32 : Int32) q32 1361 dL_law_33 (by decide) (by decide) rfl rfl ?_
                                                                        refine v_aload_n (i := 1) hc 1 rfl dL_law_1361 rfl ?_
                                                                        refine v_aload_n (i := 0) hc 0 rfl dL_law_1362 rfl ?_
                                                                        refine v_iload_n (i := 3) hc 3 rfl dL_law_1363 rfl ?_
                                                                        refine v_iconst (x := (1 : Int32)) hc dL_law_1364 zi_1 ?_
                                                                        refine v_iadd hc dL_law_1365 ?_
                                                                        refine v_sld hc hX dL_law_1366 fun x1366 => ?_
                                                                        refine v_cI hc (m_V' (As := [.int x1366]) (b := v1) (rest := []) 1 hc hr (fun l D tys base => ct8_count l D tys base h v1 x1366) (fun x hx => ob8_count hx) rfl s8_count w_1100 rfl ⟨Nat.le_of_ble_eq_true rfl, Nat.le_of_ble_eq_true rfl⟩ ⟨by (try dsimp only [room_1]); omega, by (try dsimp only [room_1]); omega⟩ (Nat.le_of_ble_eq_true rfl) dL_law_1367) fun x1367 => ?_
                                                                        refine v_aload_n (i := 2) hc 2 rfl dL_law_1370 rfl ?_
                                                                        refine v_aload_n (i := 0) hc 0 rfl dL_law_1371 rfl ?_
                                                                        refine v_iload_n (i := 3) hc 3 rfl dL_law_1372 rfl ?_
                                                                        refine v_iconst (x := (1 : Int32)) hc dL_law_1373 zi_1 ?_
                                                                        refine v_iadd hc dL_law_1374 ?_
                                                                        refine v_sld hc hX dL_law_1375 fun x1375 => ?_
                                                                        refine v_cI hc (m_V' (As := [.int x1375]) (b := v2) (rest := [.int x1367]) 1 hc hr (fun l D tys base => ct9_count l D tys base h v2 x1375) (fun x hx => ob9_count hx) rfl s9_count w_1669 rfl ⟨Nat.le_of_ble_eq_true rfl, Nat.le_of_ble_eq_true rfl⟩ ⟨by (try dsimp only [room_1]); omega, by (try dsimp only [room_1]); omega⟩ (Nat.le_of_ble_eq_true rfl) dL_law_1376) fun x1376 => ?_
                                                                        refine v_icmp_eq hc 1430 dL_law_1379 rfl ?_ ?_
                                                                        · refine v_iincN (i := 3) (y := (9 : Int32)) (L' := fun z => [(3, .int z), (0, .ref b), (1, .ref v1), (2, .ref v2)]) hc 3 rfl dL_law_1430 zi_9 (hn 3 (Nat.le_of_ble_eq_true rfl)) (fun _ => rfl) fun x1430 => ?_
                                                                          refine v_goto hc 18 dL_law_1433 rfl ?_
                                                                          refine v_sub (L' := [(0, .ref b), (1, .ref v1), (2, .ref v2), (3, .int x1430)]) [1, 2, 3, 0] rfl ?_
                                                                          refine v_wide (k' := k + 20) (n' := s + 6938) (by omega) (by omega) ?_
                                                                          exact ih (k + 20) (s + 6938) (by omega) (by omega) h x1430
                                                                        · refine v_iconst (x := (0 : Int32)) hc dL_law_1382 zi_0 ?_
                                                                          exact v_lawret0 hc hr hq (by (try dsimp only [room_1]); omega) (by (try dsimp only [room_1]); omega) dL_law_1383
                                                                      · refine v_ite (fun q33 => ?_) (fun q33 => ?_)
                                                                        · refine v_tIn hc (33 : Int32) q33 1384 dL_law_33 (by decide) (by decide) rfl rfl ?_
                                                                          refine v_aload_n (i := 1) hc 1 rfl dL_law_1384 rfl ?_
                                                                          refine v_aload_n (i := 0) hc 0 rfl dL_law_1385 rfl ?_
                                                                          refine v_iload_n (i := 3) hc 3 rfl dL_law_1386 rfl ?_
                                                                          refine v_iconst (x := (1 : Int32)) hc dL_law_1387 zi_1 ?_
                                                                          refine v_iadd hc dL_law_1388 ?_
                                                                          refine v_sld hc hX dL_law_1389 fun x1389 => ?_
                                                                          refine v_cwI hc (m_V' (As := [.int x1389]) (b := v1) (rest := []) 1 hc hr (fun l D tys base => ct8_image l D tys base h v1 x1389) (fun x hx => ob8_image hx) rfl s8_image w_1104 rfl ⟨Nat.le_of_ble_eq_true rfl, Nat.le_of_ble_eq_true rfl⟩ ⟨by (try dsimp only [room_1]); omega, by (try dsimp only [room_1]); omega⟩ (Nat.le_of_ble_eq_true rfl) dL_law_1390) fun x1390 => ?_
                                                                          refine v_aload_n (i := 2) hc 2 rfl dL_law_1393 rfl ?_
                                                                          refine v_aload_n (i := 0) hc 0 rfl dL_law_1394 rfl ?_
                                                                          refine v_iload_n (i := 3) hc 3 rfl dL_law_1395 rfl ?_
                                                                          refine v_iconst (x := (1 : Int32)) hc dL_law_1396 zi_1 ?_
                                                                          refine v_iadd hc dL_law_1397 ?_
                                                                          refine v_sld hc hX dL_law_1398 fun x1398 => ?_
                                                                          refine v_cwI hc (m_V' (As := [.int x1398]) (b := v2) (rest := [.int x1390.1]) 1 hc hr (fun l D tys base => ct9_image l D tys base x1390.2 v2 x1398) (fun x hx => ob9_image hx) rfl s9_image w_1673 rfl ⟨Nat.le_of_ble_eq_true rfl, Nat.le_of_ble_eq_true rfl⟩ ⟨by (try dsimp only [room_1]); omega, by (try dsimp only [room_1]); omega⟩ (Nat.le_of_ble_eq_true rfl) dL_law_1399) fun x1399 => ?_
                                                                          refine v_icmp_eq hc 1430 dL_law_1402 rfl ?_ ?_
                                                                          · refine v_iincN (i := 3) (y := (9 : Int32)) (L' := fun z => [(3, .int z), (0, .ref b), (1, .ref v1), (2, .ref v2)]) hc 3 rfl dL_law_1430 zi_9 (hn 3 (Nat.le_of_ble_eq_true rfl)) (fun _ => rfl) fun x1430 => ?_
                                                                            refine v_goto hc 18 dL_law_1433 rfl ?_
                                                                            refine v_sub (L' := [(0, .ref b), (1, .ref v1), (2, .ref v2), (3, .int x1430)]) [1, 2, 3, 0] rfl ?_
                                                                            refine v_wide (k' := k + 20) (n' := s + 6938) (by omega) (by omega) ?_
                                                                            exact ih (k + 20) (s + 6938) (by omega) (by omega) x1399.2 x1430
                                                                          · refine v_iconst (x := (0 : Int32)) hc dL_law_1405 zi_0 ?_
                                                                            exact v_lawret0 hc hr hq (by (try dsimp only [room_1]); omega) (by (try dsimp only [room_1]); omega) dL_law_1406
                                                                        · refine v_ite (fun q34 => ?_) (fun q34 => ?_)
                                                                          · refine v_tIn hc (34 : Int32) q34 1407 dL_law_33 (by decide) (by decide) rfl rfl ?_
                                                                            refine v_aload_n (i := 1) hc 1 rfl dL_law_1407 rfl ?_
                                                                            refine v_aload_n (i := 0) hc 0 rfl dL_law_1408 rfl ?_
                                                                            refine v_iload_n (i := 3) hc 3 rfl dL_law_1409 rfl ?_
                                                                            refine v_iconst (x := (1 : Int32)) hc dL_law_1410 zi_1 ?_
                                                                            refine v_iadd hc dL_law_1411 ?_
                                                                            refine v_sld hc hX dL_law_1412 fun x1412 => ?_
                                                                            refine v_cwI hc (m_V' (As := [.int x1412]) (b := v1) (rest := []) 1 hc hr (fun l D tys base => ct8_back l D tys base h v1 x1412) (fun x hx => ob8_back hx) rfl s8_back w_1121 rfl ⟨Nat.le_of_ble_eq_true rfl, Nat.le_of_ble_eq_true rfl⟩ ⟨by (try dsimp only [room_1]); omega, by (try dsimp only [room_1]); omega⟩ (Nat.le_of_ble_eq_true rfl) dL_law_1413) fun x1413 => ?_
                                                                            refine v_aload_n (i := 2) hc 2 rfl dL_law_1416 rfl ?_
                                                                            refine v_aload_n (i := 0) hc 0 rfl dL_law_1417 rfl ?_
                                                                            refine v_iload_n (i := 3) hc 3 rfl dL_law_1418 rfl ?_
                                                                            refine v_iconst (x := (1 : Int32)) hc dL_law_1419 zi_1 ?_
                                                                            refine v_iadd hc dL_law_1420 ?_
                                                                            refine v_sld hc hX dL_law_1421 fun x1421 => ?_
                                                                            refine v_cwI hc (m_V' (As := [.int x1421]) (b := v2) (rest := [.int x1413.1]) 1 hc hr (fun l D tys base => ct9_back l D tys base x1413.2 v2 x1421) (fun x hx => ob9_back hx) rfl s9_back w_1678 rfl ⟨Nat.le_of_ble_eq_true rfl, Nat.le_of_ble_eq_true rfl⟩ ⟨by (try dsimp only [room_1]); omega, by (try dsimp only [room_1]); omega⟩ (Nat.le_of_ble_eq_true rfl) dL_law_1422) fun x1422 => ?_
                                                                            refine v_icmp_eq hc 1430 dL_law_1425 rfl ?_ ?_
                                                                            · refine v_iincN (i := 3) (y := (9 : Int32)) (L' := fun z => [(3, .int z), (0, .ref b), (1, .ref v1), (2, .ref v2)]) hc 3 rfl dL_law_1430 zi_9 (hn 3 (Nat.le_of_ble_eq_true rfl)) (fun _ => rfl) fun x1430 => ?_
                                                                              refine v_goto hc 18 dL_law_1433 rfl ?_
                                                                              refine v_sub (L' := [(0, .ref b), (1, .ref v1), (2, .ref v2), (3, .int x1430)]) [1, 2, 3, 0] rfl ?_
                                                                              refine v_wide (k' := k + 20) (n' := s + 6938) (by omega) (by omega) ?_
                                                                              exact ih (k + 20) (s + 6938) (by omega) (by omega) x1422.2 x1430
                                                                            · refine v_iconst (x := (0 : Int32)) hc dL_law_1428 zi_0 ?_
                                                                              exact v_lawret0 hc hr hq (by (try dsimp only [room_1]); omega) (by (try dsimp only [room_1]); omega) dL_law_1429
                                                                          · refine v_tOut hc 1430 dL_law_33 (by have e0 := lv_neT (a := 0) q0 (by decide); have e1 := lv_neT (a := 1) q1 (by decide); have e2 := lv_neT (a := 2) q2 (by decide); have e3 := lv_neT (a := 3) q3 (by decide); have e4 := lv_neT (a := 4) q4 (by decide); have e5 := lv_neT (a := 5) q5 (by decide); have e6 := lv_neT (a := 6) q6 (by decide); have e7 := lv_neT (a := 7) q7 (by decide); have e8 := lv_neT (a := 8) q8 (by decide); have e9 := lv_neT (a := 9) q9 (by decide); have e10 := lv_neT (a := 10) q10 (by decide); have e11 := lv_neT (a := 11) q11 (by decide); have e12 := lv_neT (a := 12) q12 (by decide); have e13 := lv_neT (a := 13) q13 (by decide); have e14 := lv_neT (a := 14) q14 (by decide); have e15 := lv_neT (a := 15) q15 (by decide); have e16 := lv_neT (a := 16) q16 (by decide); have e17 := lv_neT (a := 17) q17 (by decide); have e18 := lv_neT (a := 18) q18 (by decide); have e19 := lv_neT (a := 19) q19 (by decide); have e20 := lv_neT (a := 20) q20 (by decide); have e21 := lv_neT (a := 21) q21 (by decide); have e22 := lv_neT (a := 22) q22 (by decide); have e23 := lv_neT (a := 23) q23 (by decide); have e24 := lv_neT (a := 24) q24 (by decide); have e25 := lv_neT (a := 25) q25 (by decide); have e26 := lv_neT (a := 26) q26 (by decide); have e27 := lv_neT (a := 27) q27 (by decide); have e28 := lv_neT (a := 28) q28 (by decide); have e29 := lv_neT (a := 29) q29 (by decide); have e30 := lv_neT (a := 30) q30 (by decide); have e31 := lv_neT (a := 31) q31 (by decide); have e32 := lv_neT (a := 32) q32 (by decide); have e33 := lv_neT (a := 33) q33 (by decide); have e34 := lv_neT (a := 34) q34 (by decide); omega) rfl ?_
                                                                            refine v_iincN (i := 3) (y := (9 : Int32)) (L' := fun z => [(3, .int z), (0, .ref b), (1, .ref v1), (2, .ref v2)]) hc 3 rfl dL_law_1430 zi_9 (hn 3 (Nat.le_of_ble_eq_true rfl)) (fun _ => rfl) fun x1430 => ?_
                                                                            refine v_goto hc 18 dL_law_1433 rfl ?_
                                                                            refine v_sub (L' := [(0, .ref b), (1, .ref v1), (2, .ref v2), (3, .int x1430)]) [1, 2, 3, 0] rfl ?_
                                                                            refine v_wide (k' := k + 20) (n' := s + 6938) (by omega) (by omega) ?_
                                                                            exact ih (k + 20) (s + 6938) (by omega) (by omega) h x1430
def fL_law (xs : Nat → Int32) (N : Nat) (h : AH) : Option (Bool × AH) := (nO 8 [.null, .null, .null, .null, .null, .int 0, .null, .int 0, .null, .null] h).bind fun y0 => (f8_init y0.2 y0.1).bind fun x4 => (nO 9 [.null, .null, .int 0, .null, .null, .null, .null, .null, .null, .null, .null, .null, .null, .null, .int 0, .int 0, .int 0, .int 0, .int 0, .int 0, .int 0, .int 0, .int 0, .null, .int 0, .null, .int 0, .null, .null, .null, .long 0, .null, .null, .null, .null, .null] x4).bind fun y8 => (f9_init y8.2 y8.1).bind fun x12 => fL_law_18 xs N y0.1 y8.1 513 x12 (0 : Int32)
set_option maxRecDepth 100000 in
theorem vL_law {κ : Kx} {b N : Nat} {xs : Nat → Int32} (hc : CX κ RL cL_law) (hr : RX κ room_1) (hq : LQ b κ) (hX : SX κ b N xs) (hL : 4 = κ.2.2.2.2.1) (h : AH) : V κ wB 0 0 0 [(0, .ref b)] [] h (fL_law xs N h) := by
  have hn : ∀ i, i < 4 → i < κ.2.2.2.2.1 := fun i q => hL ▸ q
  unfold fL_law
  refine v_new hc hr kX8 w_125 w_126 w_108 (by decide +kernel) (by (try dsimp only [room_1]); omega) (by (try dsimp only [room_1]); omega) dL_law_0 fun y0 => ?_
  refine v_dup hc dL_law_3 rfl ?_
  refine v_cV hc (m_I' (As := []) (b := y0.1) (rest := [.ref y0.1]) 0 hc hr (fun l D tys base => ct8_init l D tys base y0.2 y0.1) s8_init w_127 rfl ⟨Nat.le_of_ble_eq_true rfl, Nat.le_of_ble_eq_true rfl⟩ ⟨by (try dsimp only [room_1]); omega, by (try dsimp only [room_1]); omega⟩ (Nat.le_of_ble_eq_true rfl) dL_law_4) fun x4 => ?_
  refine v_astore_n (i := 1) (L' := [(1, .ref y0.1), (0, .ref b)]) hc dL_law_7 rfl (hn 1 (Nat.le_of_ble_eq_true rfl)) rfl ?_
  refine v_new hc hr kX9 w_1125 w_1126 w_118 (by decide +kernel) (by (try dsimp only [room_1]); omega) (by (try dsimp only [room_1]); omega) dL_law_8 fun y8 => ?_
  refine v_dup hc dL_law_11 rfl ?_
  refine v_cV hc (m_I' (As := []) (b := y8.1) (rest := [.ref y8.1]) 0 hc hr (fun l D tys base => ct9_init l D tys base y8.2 y8.1) s9_init w_1127 rfl ⟨Nat.le_of_ble_eq_true rfl, Nat.le_of_ble_eq_true rfl⟩ ⟨by (try dsimp only [room_1]); omega, by (try dsimp only [room_1]); omega⟩ (Nat.le_of_ble_eq_true rfl) dL_law_12) fun x12 => ?_
  refine v_astore_n (i := 2) (L' := [(2, .ref y8.1), (1, .ref y0.1), (0, .ref b)]) hc dL_law_15 rfl (hn 2 (Nat.le_of_ble_eq_true rfl)) rfl ?_
  refine v_iconst (x := (0 : Int32)) hc dL_law_16 zi_0 ?_
  refine v_istore_n (i := 3) (L' := [(3, .int (0 : Int32)), (2, .ref y8.1), (1, .ref y0.1), (0, .ref b)]) hc dL_law_17 rfl (hn 3 (Nat.le_of_ble_eq_true rfl)) rfl ?_
  refine v_sub (L' := [(0, .ref b), (1, .ref y0.1), (2, .ref y8.1), (3, .int (0 : Int32))]) [3, 2, 1, 0] rfl ?_
  exact vlL_law_18 hc hr hq hX hL y0.1 y8.1 513 _ _ (by omega) (by omega) x12 (0 : Int32)
