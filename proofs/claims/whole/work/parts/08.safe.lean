def f8_init_124 (v0 : Nat) : Nat → AH → Int32 → Option (AH)
  | 0, _, _ => none
  | n + 1, h, v1 => (fR 8 6 h v0).bind fun x126 => (aN h x126).bind fun x129 => (if x129 ≤ v1 then some h else (fR 8 6 h v0).bind fun x134 => (nO 0 [.int 0, .int 0, .int 0, .null, .int 0] h).bind fun y138 => (f0_init y138.2 y138.1).bind fun x142 => (sR 6 0 x142 x134 v1 y138.1).bind fun h145 => (some (v1 + (1 : Int32))).bind fun x146 => f8_init_124 v0 n h145 x146)
set_option maxRecDepth 100000 in
theorem vl8_init_124 {κ : Kx} (hc : CX κ RX8 cX8_init) (hr : RX κ ({ frames := 3, cells := 75, slots := 12193, locals := 82 } : Room)) (hq : QX κ none 75 12193) (hL : 2 = κ.2.2.2.2.1)  (v0 : Nat) : ∀ n (k s : Nat), k + n * 2 + 0 ≤ 75 → s + n * 17 + 0 ≤ 12193 → ∀ (h : AH) (v1 : Int32), V κ (wV) k s 124 [(0, .ref v0), (1, .int v1)] [] h (f8_init_124 v0 n h v1) := by
  have hn : ∀ i, i < 2 → i < κ.2.2.2.2.1 := fun i q => hL ▸ q
  intro n
  induction n with
  | zero => intros; exact v_none
  | succ n ih =>
    intro k s hk hs
    intro h v1
    rw [f8_init_124.eq_2]
    refine v_iload_n (i := 1) hc 1 rfl dX8_init_124 rfl ?_
    refine v_aload_n (i := 0) hc 0 rfl dX8_init_125 rfl ?_
    refine v_getV hc kX8 6 (by decide) w_384 rfl dX8_init_126 (gR rfl fun x126 => ?_)
    refine v_alen hc dX8_init_129 fun x129 => ?_
    refine v_icmp_ge hc 152 dX8_init_130 rfl ?_ ?_
    · exact v_vret hc hq (by (try dsimp only [room_1]); omega) (by (try dsimp only [room_1]); omega) rfl dX8_init_152
    · refine v_aload_n (i := 0) hc 0 rfl dX8_init_133 rfl ?_
      refine v_getV hc kX8 6 (by decide) w_384 rfl dX8_init_134 (gR rfl fun x134 => ?_)
      refine v_iload_n (i := 1) hc 1 rfl dX8_init_137 rfl ?_
      refine v_new hc hr kX0 w_301 w_355 w_117 (by decide +kernel) (by (try dsimp only [room_1]); omega) (by (try dsimp only [room_1]); omega) dX8_init_138 fun y138 => ?_
      refine v_dup hc dX8_init_141 rfl ?_
      refine v_cV hc (m_IN' (As := []) (b := y138.1) (rest := [.ref y138.1, .int v1, .ref x134]) 0 hc hr (fun l D tys base => ct0_init l D tys base y138.2 y138.1) s0_init w_356 rfl ⟨Nat.le_of_ble_eq_true rfl, Nat.le_of_ble_eq_true rfl⟩ ⟨by (try dsimp only [room_1]); omega, by (try dsimp only [room_1]); omega⟩ (Nat.le_of_ble_eq_true rfl) dX8_init_142) fun x142 => ?_
      refine v_aast 6 0 rfl rfl hc dX8_init_145 fun h145 => ?_
      refine v_iincN (i := 1) (y := (1 : Int32)) (L' := fun z => [(1, .int z), (0, .ref v0)]) hc 1 rfl dX8_init_146 zi_1 (hn 1 (Nat.le_of_ble_eq_true rfl)) (fun _ => rfl) fun x146 => ?_
      refine v_goto hc 124 dX8_init_149 rfl ?_
      refine v_sub (L' := [(0, .ref v0), (1, .int x146)]) [1, 0] rfl ?_
      refine v_wide (k' := k + 2) (n' := s + 17) (by omega) (by omega) ?_
      exact ih (k + 2) (s + 17) (by omega) (by omega) h145 x146
def f8_init_94 (v0 : Nat) : Nat → AH → Int32 → Option (AH)
  | 0, _, _ => none
  | n + 1, h, v1 => (fR 8 4 h v0).bind fun x96 => (aN h x96).bind fun x99 => (if x99 ≤ v1 then f8_init_124 v0 7 h (0 : Int32) else (fR 8 4 h v0).bind fun x104 => (nO 3 [.int 0, .int 0, .null, .int 0, .null, .int 0] h).bind fun y108 => (f3_init y108.2 y108.1).bind fun x112 => (sR 5 3 x112 x104 v1 y108.1).bind fun h115 => (some (v1 + (1 : Int32))).bind fun x116 => f8_init_94 v0 n h115 x116)
set_option maxRecDepth 100000 in
theorem vl8_init_94 {κ : Kx} (hc : CX κ RX8 cX8_init) (hr : RX κ ({ frames := 3, cells := 75, slots := 12193, locals := 82 } : Room)) (hq : QX κ none 75 12193) (hL : 2 = κ.2.2.2.2.1)  (v0 : Nat) : ∀ n (k s : Nat), k + n * 3 + 14 ≤ 75 → s + n * 466 + 119 ≤ 12193 → ∀ (h : AH) (v1 : Int32), V κ (wV) k s 94 [(0, .ref v0), (1, .int v1)] [] h (f8_init_94 v0 n h v1) := by
  have hn : ∀ i, i < 2 → i < κ.2.2.2.2.1 := fun i q => hL ▸ q
  intro n
  induction n with
  | zero => intros; exact v_none
  | succ n ih =>
    intro k s hk hs
    intro h v1
    rw [f8_init_94.eq_2]
    refine v_iload_n (i := 1) hc 1 rfl dX8_init_94 rfl ?_
    refine v_aload_n (i := 0) hc 0 rfl dX8_init_95 rfl ?_
    refine v_getV hc kX8 4 (by decide) w_382 rfl dX8_init_96 (gR rfl fun x96 => ?_)
    refine v_alen hc dX8_init_99 fun x99 => ?_
    refine v_icmp_ge hc 122 dX8_init_100 rfl ?_ ?_
    · refine v_iconst (x := (0 : Int32)) hc dX8_init_122 zi_0 ?_
      refine v_istore_n (i := 1) (L' := [(1, .int (0 : Int32)), (0, .ref v0)]) hc dX8_init_123 rfl (hn 1 (Nat.le_of_ble_eq_true rfl)) rfl ?_
      refine v_sub (L' := [(0, .ref v0), (1, .int (0 : Int32))]) [1, 0] rfl ?_
      exact vl8_init_124 hc hr hq hL v0 7 _ _ (by omega) (by omega) h (0 : Int32)
    · refine v_aload_n (i := 0) hc 0 rfl dX8_init_103 rfl ?_
      refine v_getV hc kX8 4 (by decide) w_382 rfl dX8_init_104 (gR rfl fun x104 => ?_)
      refine v_iload_n (i := 1) hc 1 rfl dX8_init_107 rfl ?_
      refine v_new hc hr kX3 w_299 w_329 w_116 (by decide +kernel) (by (try dsimp only [room_1]); omega) (by (try dsimp only [room_1]); omega) dX8_init_108 fun y108 => ?_
      refine v_dup hc dX8_init_111 rfl ?_
      refine v_cV hc (m_IN' (As := []) (b := y108.1) (rest := [.ref y108.1, .int v1, .ref x104]) 0 hc hr (fun l D tys base => ct3_init l D tys base y108.2 y108.1) s3_init w_330 rfl ⟨Nat.le_of_ble_eq_true rfl, Nat.le_of_ble_eq_true rfl⟩ ⟨by (try dsimp only [room_1]); omega, by (try dsimp only [room_1]); omega⟩ (Nat.le_of_ble_eq_true rfl) dX8_init_112) fun x112 => ?_
      refine v_aast 5 3 rfl rfl hc dX8_init_115 fun h115 => ?_
      refine v_iincN (i := 1) (y := (1 : Int32)) (L' := fun z => [(1, .int z), (0, .ref v0)]) hc 1 rfl dX8_init_116 zi_1 (hn 1 (Nat.le_of_ble_eq_true rfl)) (fun _ => rfl) fun x116 => ?_
      refine v_goto hc 94 dX8_init_119 rfl ?_
      refine v_sub (L' := [(0, .ref v0), (1, .int x116)]) [1, 0] rfl ?_
      refine v_wide (k' := k + 3) (n' := s + 466) (by omega) (by omega) ?_
      exact ih (k + 3) (s + 466) (by omega) (by omega) h115 x116
def f8_init (h : AH) (this : Nat) : Option (AH) := (hObj 8 h this).bind fun _ => (nO 7 [.int 0, .null, .null, .null, .null, .null, .null, .null, .null] h).bind fun y5 => (f7_init y5.2 y5.1).bind fun x9 => (fS 8 0 x9 this (.ref y5.1)).bind fun h12 => (nQ 4 4 h12 (4 : Int32)).bind fun y17 => (fS 8 1 y17.2 this (.ref y17.1)).bind fun h20 => (nO 6 [.null, .int 0, .int 0, .int 0, .int 0, .int 0, .int 0] h20).bind fun y24 => (f6_init y24.2 y24.1).bind fun x28 => (fS 8 2 x28 this (.ref y24.1)).bind fun h31 => (nO 1 [.null, .null, .int 0, .int 0, .int 0, .int 0, .int 0, .int 0, .int 0, .null, .int 0, .int 0, .int 0] h31).bind fun y35 => (f1_init y35.2 y35.1).bind fun x39 => (fS 8 3 x39 this (.ref y35.1)).bind fun h42 => (nQ 5 8 h42 (8 : Int32)).bind fun y48 => (fS 8 4 y48.2 this (.ref y48.1)).bind fun h51 => (fS 8 5 h51 this (.int (0 : Int32))).bind fun h56 => (nQ 6 6 h56 (6 : Int32)).bind fun y62 => (fS 8 6 y62.2 this (.ref y62.1)).bind fun h65 => (fS 8 7 h65 this (.int (0 : Int32))).bind fun h70 => (nB 0 10 h70 (10 : Int32)).bind fun y76 => (fS 8 8 y76.2 this (.ref y76.1)).bind fun h78 => (nO 4 [.null, .null, .null, .null, .int 0, .null] h78).bind fun y82 => (f4_init y82.2 y82.1).bind fun x86 => (fS 8 9 x86 this (.ref y82.1)).bind fun h89 => f8_init_94 this 9 h89 (0 : Int32)
theorem ob8_init {h : AH} {this : Nat} {x : AH} (e : f8_init h this = some x) : ∃ fs, hObj 8 h this = some fs := by
  unfold f8_init at e
  obtain ⟨fs, h1, -⟩ := bd e
  exact ⟨fs, h1⟩
set_option maxRecDepth 100000 in
theorem ct8_init (l : Launch) (D : va_G) (tys : Tys) (base : Nat) (h : AH) (this : Nat) : Ct l D tys base yX8_init cX8_init 2 none 3 82 75 12193 [.ref this] h (wV) (f8_init h this) := by
  refine Ct.intro (own := RX8) (L := [(0, .ref this)]) rfl (by decide) rfl (Nat.le_of_ble_eq_true rfl) fun κ hc hr hq hi hL => ?_
  have hin : IN κ := hi rfl
  have hn : ∀ i, i < 2 → i < κ.2.2.2.2.1 := fun i q => hL ▸ q
  unfold f8_init
  refine v_obj ?_
  refine v_aload_n (i := 0) hc 0 rfl dX8_init_0 rfl ?_
  refine v_objI hc hr (Nat.le_of_ble_eq_true rfl) (Nat.le_of_ble_eq_true rfl) (Nat.le_of_ble_eq_true rfl) (Nat.le_of_ble_eq_true rfl) w_130 w_131 w_132 dX8_init_1 ?_
  refine v_aload_n (i := 0) hc 0 rfl dX8_init_4 rfl ?_
  refine v_new hc hr kX7 w_133 w_134 w_109 (by decide +kernel) (by (try dsimp only [room_1]); omega) (by (try dsimp only [room_1]); omega) dX8_init_5 fun y5 => ?_
  refine v_dup hc dX8_init_8 rfl ?_
  refine v_cV hc (m_IN' (As := []) (b := y5.1) (rest := [.ref y5.1, .ref this]) 0 hc hr (fun l D tys base => ct7_init l D tys base y5.2 y5.1) s7_init w_135 rfl ⟨Nat.le_of_ble_eq_true rfl, Nat.le_of_ble_eq_true rfl⟩ ⟨by (try dsimp only [room_1]); omega, by (try dsimp only [room_1]); omega⟩ (Nat.le_of_ble_eq_true rfl) dX8_init_9) fun x9 => ?_
  refine v_putF hc hin kX8 0 (by decide) w_378 rfl rfl rfl dX8_init_12 ⟨rfl, rfl⟩ fun h12 => ?_
  refine v_aload_n (i := 0) hc 0 rfl dX8_init_15 rfl ?_
  refine v_iconst (x := (4 : Int32)) hc dX8_init_16 zi_4 ?_
  refine v_newq 4 4 rfl hc hr w_133 w_220 (by (try dsimp only [room_1]); omega) (by (try dsimp only [room_1]); omega) (by (try dsimp only [room_1]); omega) dX8_init_17 fun y17 => ?_
  refine v_putF hc hin kX8 1 (by decide) w_379 rfl rfl rfl dX8_init_20 ⟨rfl, rfl⟩ fun h20 => ?_
  refine v_aload_n (i := 0) hc 0 rfl dX8_init_23 rfl ?_
  refine v_new hc hr kX6 w_221 w_222 w_113 (by decide +kernel) (by (try dsimp only [room_1]); omega) (by (try dsimp only [room_1]); omega) dX8_init_24 fun y24 => ?_
  refine v_dup hc dX8_init_27 rfl ?_
  refine v_cV hc (m_IN' (As := []) (b := y24.1) (rest := [.ref y24.1, .ref this]) 0 hc hr (fun l D tys base => ct6_init l D tys base y24.2 y24.1) s6_init w_223 rfl ⟨Nat.le_of_ble_eq_true rfl, Nat.le_of_ble_eq_true rfl⟩ ⟨by (try dsimp only [room_1]); omega, by (try dsimp only [room_1]); omega⟩ (Nat.le_of_ble_eq_true rfl) dX8_init_28) fun x28 => ?_
  refine v_putF hc hin kX8 2 (by decide) w_380 rfl rfl rfl dX8_init_31 ⟨rfl, rfl⟩ fun h31 => ?_
  refine v_aload_n (i := 0) hc 0 rfl dX8_init_34 rfl ?_
  refine v_new hc hr kX1 w_253 w_254 w_114 (by decide +kernel) (by (try dsimp only [room_1]); omega) (by (try dsimp only [room_1]); omega) dX8_init_35 fun y35 => ?_
  refine v_dup hc dX8_init_38 rfl ?_
  refine v_cV hc (m_IN' (As := []) (b := y35.1) (rest := [.ref y35.1, .ref this]) 0 hc hr (fun l D tys base => ct1_init l D tys base y35.2 y35.1) s1_init w_255 rfl ⟨Nat.le_of_ble_eq_true rfl, Nat.le_of_ble_eq_true rfl⟩ ⟨by (try dsimp only [room_1]); omega, by (try dsimp only [room_1]); omega⟩ (Nat.le_of_ble_eq_true rfl) dX8_init_39) fun x39 => ?_
  refine v_putF hc hin kX8 3 (by decide) w_381 rfl rfl rfl dX8_init_42 ⟨rfl, rfl⟩ fun h42 => ?_
  refine v_aload_n (i := 0) hc 0 rfl dX8_init_45 rfl ?_
  refine v_bipush (x := (8 : Int32)) hc dX8_init_46 zb_8 ?_
  refine v_newq 5 8 rfl hc hr w_299 w_300 (by (try dsimp only [room_1]); omega) (by (try dsimp only [room_1]); omega) (by (try dsimp only [room_1]); omega) dX8_init_48 fun y48 => ?_
  refine v_putF hc hin kX8 4 (by decide) w_382 rfl rfl rfl dX8_init_51 ⟨rfl, rfl⟩ fun h51 => ?_
  refine v_aload_n (i := 0) hc 0 rfl dX8_init_54 rfl ?_
  refine v_iconst (x := (0 : Int32)) hc dX8_init_55 zi_0 ?_
  refine v_put hc kX8 5 (by decide) w_383 rfl rfl dX8_init_56 ⟨rfl, rfl⟩ fun h56 => ?_
  refine v_aload_n (i := 0) hc 0 rfl dX8_init_59 rfl ?_
  refine v_bipush (x := (6 : Int32)) hc dX8_init_60 zb_6 ?_
  refine v_newq 6 6 rfl hc hr w_301 w_302 (by (try dsimp only [room_1]); omega) (by (try dsimp only [room_1]); omega) (by (try dsimp only [room_1]); omega) dX8_init_62 fun y62 => ?_
  refine v_putF hc hin kX8 6 (by decide) w_384 rfl rfl rfl dX8_init_65 ⟨rfl, rfl⟩ fun h65 => ?_
  refine v_aload_n (i := 0) hc 0 rfl dX8_init_68 rfl ?_
  refine v_iconst (x := (0 : Int32)) hc dX8_init_69 zi_0 ?_
  refine v_put hc kX8 7 (by decide) w_385 rfl rfl dX8_init_70 ⟨rfl, rfl⟩ fun h70 => ?_
  refine v_aload_n (i := 0) hc 0 rfl dX8_init_73 rfl ?_
  refine v_bipush (x := (10 : Int32)) hc dX8_init_74 zb_10 ?_
  refine v_newa (at' := .int) 0 10 rfl (by decide) hc hr w_161 (by (try dsimp only [room_1]); omega) (by (try dsimp only [room_1]); omega) (by (try dsimp only [room_1]); omega) dX8_init_76 fun y76 => ?_
  refine v_putF hc hin kX8 8 (by decide) w_386 rfl rfl rfl dX8_init_78 ⟨rfl, rfl⟩ fun h78 => ?_
  refine v_aload_n (i := 0) hc 0 rfl dX8_init_81 rfl ?_
  refine v_new hc hr kX4 w_303 w_304 w_115 (by decide +kernel) (by (try dsimp only [room_1]); omega) (by (try dsimp only [room_1]); omega) dX8_init_82 fun y82 => ?_
  refine v_dup hc dX8_init_85 rfl ?_
  refine v_cV hc (m_IN' (As := []) (b := y82.1) (rest := [.ref y82.1, .ref this]) 0 hc hr (fun l D tys base => ct4_init l D tys base y82.2 y82.1) s4_init w_305 rfl ⟨Nat.le_of_ble_eq_true rfl, Nat.le_of_ble_eq_true rfl⟩ ⟨by (try dsimp only [room_1]); omega, by (try dsimp only [room_1]); omega⟩ (Nat.le_of_ble_eq_true rfl) dX8_init_86) fun x86 => ?_
  refine v_putF hc hin kX8 9 (by decide) w_387 rfl rfl rfl dX8_init_89 ⟨rfl, rfl⟩ fun h89 => ?_
  refine v_iconst (x := (0 : Int32)) hc dX8_init_92 zi_0 ?_
  refine v_istore_n (i := 1) (L' := [(1, .int (0 : Int32)), (0, .ref this)]) hc dX8_init_93 rfl (hn 1 (Nat.le_of_ble_eq_true rfl)) rfl ?_
  refine v_sub (L' := [(0, .ref this), (1, .int (0 : Int32))]) [1, 0] rfl ?_
  exact vl8_init_94 hc hr hq hL this 9 _ _ (by omega) (by omega) h89 (0 : Int32)
theorem s8_init : YI yX8_init cX8_init 2 0 := ⟨w_129, w_128, w_108, rfl, by decide +kernel, by decide +kernel, by decide +kernel⟩
def f8_clock (h : AH) (this : Nat) (p0 : Int32) : Option (Bool × AH) := (hObj 8 h this).bind fun _ => (fR 8 0 h this).bind fun x2 => (fI 7 0 h x2).bind fun x5 => (f8_isFrom h p0 x5 (519 : Int32)).bind fun x11 => (if x11 = true then (fR 8 0 h this).bind fun x20 => (fS 7 0 h x20 (.int p0)).bind fun h24 => some (true, h24) else some (false, h))
theorem ob8_clock {h : AH} {this : Nat} {p0 : Int32} {x : Bool × AH} (e : f8_clock h this p0 = some x) : ∃ fs, hObj 8 h this = some fs := by
  unfold f8_clock at e
  obtain ⟨fs, h1, -⟩ := bd e
  exact ⟨fs, h1⟩
set_option maxRecDepth 100000 in
theorem ct8_clock (l : Launch) (D : va_G) (tys : Tys) (base : Nat) (h : AH) (this : Nat) (p0 : Int32) : Ct l D tys base yX8_clock cX8_clock 2 (some .boolean) 1 22 0 0 [.ref this, .int p0] h (wB) (f8_clock h this p0) := by
  refine Ct.intro (own := RX8) (L := [(0, .ref this), (1, .int p0)]) rfl (by decide) rfl (Nat.le_of_ble_eq_true rfl) fun κ hc hr hq hi hL => ?_
  have hn : ∀ i, i < 2 → i < κ.2.2.2.2.1 := fun i q => hL ▸ q
  unfold f8_clock
  refine v_obj ?_
  refine v_iload_n (i := 1) hc 1 rfl dX8_clock_0 rfl ?_
  refine v_aload_n (i := 0) hc 0 rfl dX8_clock_1 rfl ?_
  refine v_getV hc kX8 0 (by decide) w_378 rfl dX8_clock_2 (gR rfl fun x2 => ?_)
  refine v_getVN hc kX7 0 (by decide) w_180 rfl dX8_clock_5 (gI rfl fun x5 => ?_)
  refine v_sipush (x := (519 : Int32)) hc dX8_clock_8 zs_519 ?_
  refine v_cB hc (m_S' (As := [.int p0, .int x5, .int (519 : Int32)]) (rest := []) 3 hc hr (fun l D tys base => ct8_isFrom l D tys base h p0 x5 (519 : Int32)) s8_isFrom w_413 rfl ⟨Nat.le_of_ble_eq_true rfl, Nat.le_of_ble_eq_true rfl⟩ ⟨Nat.le_of_ble_eq_true rfl, Nat.le_of_ble_eq_true rfl⟩ (Nat.le_of_ble_eq_true rfl) dX8_clock_11) fun x11 => ?_
  refine v_ifb_ne hc 19 dX8_clock_14 rfl ?_ ?_
  · refine v_aload_n (i := 0) hc 0 rfl dX8_clock_19 rfl ?_
    refine v_getV hc kX8 0 (by decide) w_378 rfl dX8_clock_20 (gR rfl fun x20 => ?_)
    refine v_iload_n (i := 1) hc 1 rfl dX8_clock_23 rfl ?_
    refine v_putN hc kX7 0 (by decide) w_180 rfl rfl dX8_clock_24 ⟨rfl, rfl⟩ fun h24 => ?_
    refine v_iconst (x := (1 : Int32)) hc dX8_clock_27 zi_1 ?_
    exact v_iret (v := bI true) hc hq rfl (nar_b true) (Nat.le_of_ble_eq_true rfl) (Nat.le_of_ble_eq_true rfl) rfl dX8_clock_28
  · refine v_iconst (x := (0 : Int32)) hc dX8_clock_17 zi_0 ?_
    exact v_iret (v := bI false) hc hq rfl (nar_b false) (Nat.le_of_ble_eq_true rfl) (Nat.le_of_ble_eq_true rfl) rfl dX8_clock_18
theorem s8_clock : YV yX8_clock RX8 cX8_clock 2 (some .boolean) 1 := ⟨w_412, w_410, w_411, w_108, rfl, by decide +kernel, by decide +kernel, by decide +kernel⟩
def f8_stuff (h : AH) (this : Nat) (p0 : Int32) (p1 : Int32) : Option (Int32 × AH) := (hObj 8 h this).bind fun _ => (f8_isFrom h p0 (1800 : Int32) (1999 : Int32)).bind fun x7 => (if x7 = true then (f8_isFrom h p1 (1 : Int32) (99 : Int32)).bind fun x17 => (if x17 = true then (fR 8 0 h this).bind fun x26 => (fR 7 1 h x26).bind fun x29 => (f5_addRow h x29).bind fun x32 => (fR 8 0 x32.2 this).bind fun x37 => (fR 7 1 x32.2 x37).bind fun x40 => (f5_put x32.2 x40 x32.1 (0 : Int32) p0).bind fun x46 => (fR 8 0 x46 this).bind fun x50 => (fR 7 1 x46 x50).bind fun x53 => (f5_put x46 x53 x32.1 (1 : Int32) p1).bind fun x59 => some (x32.1, x59) else some ((-1 : Int32), h)) else some ((-1 : Int32), h))
theorem ob8_stuff {h : AH} {this : Nat} {p0 : Int32} {p1 : Int32} {x : Int32 × AH} (e : f8_stuff h this p0 p1 = some x) : ∃ fs, hObj 8 h this = some fs := by
  unfold f8_stuff at e
  obtain ⟨fs, h1, -⟩ := bd e
  exact ⟨fs, h1⟩
set_option maxRecDepth 100000 in
theorem ct8_stuff (l : Launch) (D : va_G) (tys : Tys) (base : Nat) (h : AH) (this : Nat) (p0 : Int32) (p1 : Int32) : Ct l D tys base yX8_stuff cX8_stuff 4 (some .int) 4 88 0 0 [.ref this, .int p0, .int p1] h (wI) (f8_stuff h this p0 p1) := by
  refine Ct.intro (own := RX8) (L := [(0, .ref this), (1, .int p0), (2, .int p1)]) rfl (by decide) rfl (Nat.le_of_ble_eq_true rfl) fun κ hc hr hq hi hL => ?_
  have hn : ∀ i, i < 4 → i < κ.2.2.2.2.1 := fun i q => hL ▸ q
  unfold f8_stuff
  refine v_obj ?_
  refine v_iload_n (i := 1) hc 1 rfl dX8_stuff_0 rfl ?_
  refine v_sipush (x := (1800 : Int32)) hc dX8_stuff_1 zs_1800 ?_
  refine v_sipush (x := (1999 : Int32)) hc dX8_stuff_4 zs_1999 ?_
  refine v_cB hc (m_S' (As := [.int p0, .int (1800 : Int32), .int (1999 : Int32)]) (rest := []) 3 hc hr (fun l D tys base => ct8_isFrom l D tys base h p0 (1800 : Int32) (1999 : Int32)) s8_isFrom w_413 rfl ⟨Nat.le_of_ble_eq_true rfl, Nat.le_of_ble_eq_true rfl⟩ ⟨Nat.le_of_ble_eq_true rfl, Nat.le_of_ble_eq_true rfl⟩ (Nat.le_of_ble_eq_true rfl) dX8_stuff_7) fun x7 => ?_
  refine v_ifb_eq hc 23 dX8_stuff_10 rfl ?_ ?_
  · refine v_iconst (x := (-1 : Int32)) hc dX8_stuff_23 zi_m1 ?_
    exact v_iret hc hq rfl rfl (Nat.le_of_ble_eq_true rfl) (Nat.le_of_ble_eq_true rfl) rfl dX8_stuff_24
  · refine v_iload_n (i := 2) hc 2 rfl dX8_stuff_13 rfl ?_
    refine v_iconst (x := (1 : Int32)) hc dX8_stuff_14 zi_1 ?_
    refine v_bipush (x := (99 : Int32)) hc dX8_stuff_15 zb_99 ?_
    refine v_cB hc (m_S' (As := [.int p1, .int (1 : Int32), .int (99 : Int32)]) (rest := []) 3 hc hr (fun l D tys base => ct8_isFrom l D tys base h p1 (1 : Int32) (99 : Int32)) s8_isFrom w_413 rfl ⟨Nat.le_of_ble_eq_true rfl, Nat.le_of_ble_eq_true rfl⟩ ⟨Nat.le_of_ble_eq_true rfl, Nat.le_of_ble_eq_true rfl⟩ (Nat.le_of_ble_eq_true rfl) dX8_stuff_17) fun x17 => ?_
    refine v_ifb_ne hc 25 dX8_stuff_20 rfl ?_ ?_
    · refine v_aload_n (i := 0) hc 0 rfl dX8_stuff_25 rfl ?_
      refine v_getV hc kX8 0 (by decide) w_378 rfl dX8_stuff_26 (gR rfl fun x26 => ?_)
      refine v_getVN hc kX7 1 (by decide) w_182 rfl dX8_stuff_29 (gR rfl fun x29 => ?_)
      refine v_cwI hc (m_V' (As := []) (b := x29) (rest := []) 0 hc hr (fun l D tys base => ct5_addRow l D tys base h x29) (fun x hx => ob5_addRow hx) rfl s5_addRow w_420 rfl ⟨Nat.le_of_ble_eq_true rfl, Nat.le_of_ble_eq_true rfl⟩ ⟨Nat.le_of_ble_eq_true rfl, Nat.le_of_ble_eq_true rfl⟩ (Nat.le_of_ble_eq_true rfl) dX8_stuff_32) fun x32 => ?_
      refine v_istore_n (i := 3) (L' := [(3, .int x32.1), (0, .ref this), (1, .int p0), (2, .int p1)]) hc dX8_stuff_35 rfl (hn 3 (Nat.le_of_ble_eq_true rfl)) rfl ?_
      refine v_aload_n (i := 0) hc 1 rfl dX8_stuff_36 rfl ?_
      refine v_getV hc kX8 0 (by decide) w_378 rfl dX8_stuff_37 (gR rfl fun x37 => ?_)
      refine v_getVN hc kX7 1 (by decide) w_182 rfl dX8_stuff_40 (gR rfl fun x40 => ?_)
      refine v_iload_n (i := 3) hc 0 rfl dX8_stuff_43 rfl ?_
      refine v_iconst (x := (0 : Int32)) hc dX8_stuff_44 zi_0 ?_
      refine v_iload_n (i := 1) hc 2 rfl dX8_stuff_45 rfl ?_
      refine v_cV hc (m_V' (As := [.int x32.1, .int (0 : Int32), .int p0]) (b := x40) (rest := []) 3 hc hr (fun l D tys base => ct5_put l D tys base x32.2 x40 x32.1 (0 : Int32) p0) (fun x hx => ob5_put hx) rfl s5_put w_440 rfl ⟨Nat.le_of_ble_eq_true rfl, Nat.le_of_ble_eq_true rfl⟩ ⟨Nat.le_of_ble_eq_true rfl, Nat.le_of_ble_eq_true rfl⟩ (Nat.le_of_ble_eq_true rfl) dX8_stuff_46) fun x46 => ?_
      refine v_aload_n (i := 0) hc 1 rfl dX8_stuff_49 rfl ?_
      refine v_getV hc kX8 0 (by decide) w_378 rfl dX8_stuff_50 (gR rfl fun x50 => ?_)
      refine v_getVN hc kX7 1 (by decide) w_182 rfl dX8_stuff_53 (gR rfl fun x53 => ?_)
      refine v_iload_n (i := 3) hc 0 rfl dX8_stuff_56 rfl ?_
      refine v_iconst (x := (1 : Int32)) hc dX8_stuff_57 zi_1 ?_
      refine v_iload_n (i := 2) hc 3 rfl dX8_stuff_58 rfl ?_
      refine v_cV hc (m_V' (As := [.int x32.1, .int (1 : Int32), .int p1]) (b := x53) (rest := []) 3 hc hr (fun l D tys base => ct5_put l D tys base x46 x53 x32.1 (1 : Int32) p1) (fun x hx => ob5_put hx) rfl s5_put w_440 rfl ⟨Nat.le_of_ble_eq_true rfl, Nat.le_of_ble_eq_true rfl⟩ ⟨Nat.le_of_ble_eq_true rfl, Nat.le_of_ble_eq_true rfl⟩ (Nat.le_of_ble_eq_true rfl) dX8_stuff_59) fun x59 => ?_
      refine v_iload_n (i := 3) hc 0 rfl dX8_stuff_62 rfl ?_
      exact v_iret hc hq rfl rfl (Nat.le_of_ble_eq_true rfl) (Nat.le_of_ble_eq_true rfl) rfl dX8_stuff_63
    · refine v_iconst (x := (-1 : Int32)) hc dX8_stuff_23 zi_m1 ?_
      exact v_iret hc hq rfl rfl (Nat.le_of_ble_eq_true rfl) (Nat.le_of_ble_eq_true rfl) rfl dX8_stuff_24
theorem s8_stuff : YV yX8_stuff RX8 cX8_stuff 4 (some .int) 2 := ⟨w_419, w_417, w_418, w_108, rfl, by decide +kernel, by decide +kernel, by decide +kernel⟩
def f8_truth (h : AH) (this : Nat) (p0 : Int32) (p1 : Int32) : Option (Int32 × AH) := (hObj 8 h this).bind fun _ => (f8_isFrom h p0 (0 : Int32) (9999 : Int32)).bind fun x5 => (if x5 = true then (f8_isFrom h p1 (0 : Int32) (99 : Int32)).bind fun x15 => (if x15 = true then (fR 8 0 h this).bind fun x24 => (fR 7 2 h x24).bind fun x27 => (f2_insert h x27 p0 p1).bind fun x32 => some (x32.1, x32.2) else some ((-1 : Int32), h)) else some ((-1 : Int32), h))
theorem ob8_truth {h : AH} {this : Nat} {p0 : Int32} {p1 : Int32} {x : Int32 × AH} (e : f8_truth h this p0 p1 = some x) : ∃ fs, hObj 8 h this = some fs := by
  unfold f8_truth at e
  obtain ⟨fs, h1, -⟩ := bd e
  exact ⟨fs, h1⟩
set_option maxRecDepth 100000 in
theorem ct8_truth (l : Launch) (D : va_G) (tys : Tys) (base : Nat) (h : AH) (this : Nat) (p0 : Int32) (p1 : Int32) : Ct l D tys base yX8_truth cX8_truth 3 (some .int) 3 87 0 0 [.ref this, .int p0, .int p1] h (wI) (f8_truth h this p0 p1) := by
  refine Ct.intro (own := RX8) (L := [(0, .ref this), (1, .int p0), (2, .int p1)]) rfl (by decide) rfl (Nat.le_of_ble_eq_true rfl) fun κ hc hr hq hi hL => ?_
  have hn : ∀ i, i < 3 → i < κ.2.2.2.2.1 := fun i q => hL ▸ q
  unfold f8_truth
  refine v_obj ?_
  refine v_iload_n (i := 1) hc 1 rfl dX8_truth_0 rfl ?_
  refine v_iconst (x := (0 : Int32)) hc dX8_truth_1 zi_0 ?_
  refine v_sipush (x := (9999 : Int32)) hc dX8_truth_2 zs_9999 ?_
  refine v_cB hc (m_S' (As := [.int p0, .int (0 : Int32), .int (9999 : Int32)]) (rest := []) 3 hc hr (fun l D tys base => ct8_isFrom l D tys base h p0 (0 : Int32) (9999 : Int32)) s8_isFrom w_413 rfl ⟨Nat.le_of_ble_eq_true rfl, Nat.le_of_ble_eq_true rfl⟩ ⟨Nat.le_of_ble_eq_true rfl, Nat.le_of_ble_eq_true rfl⟩ (Nat.le_of_ble_eq_true rfl) dX8_truth_5) fun x5 => ?_
  refine v_ifb_eq hc 21 dX8_truth_8 rfl ?_ ?_
  · refine v_iconst (x := (-1 : Int32)) hc dX8_truth_21 zi_m1 ?_
    exact v_iret hc hq rfl rfl (Nat.le_of_ble_eq_true rfl) (Nat.le_of_ble_eq_true rfl) rfl dX8_truth_22
  · refine v_iload_n (i := 2) hc 2 rfl dX8_truth_11 rfl ?_
    refine v_iconst (x := (0 : Int32)) hc dX8_truth_12 zi_0 ?_
    refine v_bipush (x := (99 : Int32)) hc dX8_truth_13 zb_99 ?_
    refine v_cB hc (m_S' (As := [.int p1, .int (0 : Int32), .int (99 : Int32)]) (rest := []) 3 hc hr (fun l D tys base => ct8_isFrom l D tys base h p1 (0 : Int32) (99 : Int32)) s8_isFrom w_413 rfl ⟨Nat.le_of_ble_eq_true rfl, Nat.le_of_ble_eq_true rfl⟩ ⟨Nat.le_of_ble_eq_true rfl, Nat.le_of_ble_eq_true rfl⟩ (Nat.le_of_ble_eq_true rfl) dX8_truth_15) fun x15 => ?_
    refine v_ifb_ne hc 23 dX8_truth_18 rfl ?_ ?_
    · refine v_aload_n (i := 0) hc 0 rfl dX8_truth_23 rfl ?_
      refine v_getV hc kX8 0 (by decide) w_378 rfl dX8_truth_24 (gR rfl fun x24 => ?_)
      refine v_getVN hc kX7 2 (by decide) w_184 rfl dX8_truth_27 (gR rfl fun x27 => ?_)
      refine v_iload_n (i := 1) hc 1 rfl dX8_truth_30 rfl ?_
      refine v_iload_n (i := 2) hc 2 rfl dX8_truth_31 rfl ?_
      refine v_cwI hc (m_V' (As := [.int p0, .int p1]) (b := x27) (rest := []) 2 hc hr (fun l D tys base => ct2_insert l D tys base h x27 p0 p1) (fun x hx => ob2_insert hx) rfl s2_insert w_445 rfl ⟨Nat.le_of_ble_eq_true rfl, Nat.le_of_ble_eq_true rfl⟩ ⟨Nat.le_of_ble_eq_true rfl, Nat.le_of_ble_eq_true rfl⟩ (Nat.le_of_ble_eq_true rfl) dX8_truth_32) fun x32 => ?_
      exact v_iret hc hq rfl rfl (Nat.le_of_ble_eq_true rfl) (Nat.le_of_ble_eq_true rfl) rfl dX8_truth_35
    · refine v_iconst (x := (-1 : Int32)) hc dX8_truth_21 zi_m1 ?_
      exact v_iret hc hq rfl rfl (Nat.le_of_ble_eq_true rfl) (Nat.le_of_ble_eq_true rfl) rfl dX8_truth_22
theorem s8_truth : YV yX8_truth RX8 cX8_truth 3 (some .int) 2 := ⟨w_444, w_442, w_443, w_108, rfl, by decide +kernel, by decide +kernel, by decide +kernel⟩
def f8_fact (h : AH) (this : Nat) (p0 : Int32) (p1 : Int32) (p2 : Int32) : Option (Int32 × AH) := (hObj 8 h this).bind fun _ => (f8_isFrom h p0 (0 : Int32) (5 : Int32)).bind fun x3 => (if x3 = true then (f8_isFrom h p1 (0 : Int32) (9999 : Int32)).bind fun x14 => (if x14 = true then (f8_isFrom h p2 (0 : Int32) (99 : Int32)).bind fun x24 => (if x24 = true then (fR 8 0 h this).bind fun x33 => (fR 7 3 h x33).bind fun x36 => (f2_insert h x36 ((p0 * (10000 : Int32)) + p1) p2).bind fun x47 => some (x47.1, x47.2) else some ((-1 : Int32), h)) else some ((-1 : Int32), h)) else some ((-1 : Int32), h))
theorem ob8_fact {h : AH} {this : Nat} {p0 : Int32} {p1 : Int32} {p2 : Int32} {x : Int32 × AH} (e : f8_fact h this p0 p1 p2 = some x) : ∃ fs, hObj 8 h this = some fs := by
  unfold f8_fact at e
  obtain ⟨fs, h1, -⟩ := bd e
  exact ⟨fs, h1⟩
set_option maxRecDepth 100000 in
theorem ct8_fact (l : Launch) (D : va_G) (tys : Tys) (base : Nat) (h : AH) (this : Nat) (p0 : Int32) (p1 : Int32) (p2 : Int32) : Ct l D tys base yX8_fact cX8_fact 4 (some .int) 3 87 0 0 [.ref this, .int p0, .int p1, .int p2] h (wI) (f8_fact h this p0 p1 p2) := by
  refine Ct.intro (own := RX8) (L := [(0, .ref this), (1, .int p0), (2, .int p1), (3, .int p2)]) rfl (by decide) rfl (Nat.le_of_ble_eq_true rfl) fun κ hc hr hq hi hL => ?_
  have hn : ∀ i, i < 4 → i < κ.2.2.2.2.1 := fun i q => hL ▸ q
  unfold f8_fact
  refine v_obj ?_
  refine v_iload_n (i := 1) hc 1 rfl dX8_fact_0 rfl ?_
  refine v_iconst (x := (0 : Int32)) hc dX8_fact_1 zi_0 ?_
  refine v_iconst (x := (5 : Int32)) hc dX8_fact_2 zi_5 ?_
  refine v_cB hc (m_S' (As := [.int p0, .int (0 : Int32), .int (5 : Int32)]) (rest := []) 3 hc hr (fun l D tys base => ct8_isFrom l D tys base h p0 (0 : Int32) (5 : Int32)) s8_isFrom w_413 rfl ⟨Nat.le_of_ble_eq_true rfl, Nat.le_of_ble_eq_true rfl⟩ ⟨Nat.le_of_ble_eq_true rfl, Nat.le_of_ble_eq_true rfl⟩ (Nat.le_of_ble_eq_true rfl) dX8_fact_3) fun x3 => ?_
  refine v_ifb_eq hc 30 dX8_fact_6 rfl ?_ ?_
  · refine v_iconst (x := (-1 : Int32)) hc dX8_fact_30 zi_m1 ?_
    exact v_iret hc hq rfl rfl (Nat.le_of_ble_eq_true rfl) (Nat.le_of_ble_eq_true rfl) rfl dX8_fact_31
  · refine v_iload_n (i := 2) hc 2 rfl dX8_fact_9 rfl ?_
    refine v_iconst (x := (0 : Int32)) hc dX8_fact_10 zi_0 ?_
    refine v_sipush (x := (9999 : Int32)) hc dX8_fact_11 zs_9999 ?_
    refine v_cB hc (m_S' (As := [.int p1, .int (0 : Int32), .int (9999 : Int32)]) (rest := []) 3 hc hr (fun l D tys base => ct8_isFrom l D tys base h p1 (0 : Int32) (9999 : Int32)) s8_isFrom w_413 rfl ⟨Nat.le_of_ble_eq_true rfl, Nat.le_of_ble_eq_true rfl⟩ ⟨Nat.le_of_ble_eq_true rfl, Nat.le_of_ble_eq_true rfl⟩ (Nat.le_of_ble_eq_true rfl) dX8_fact_14) fun x14 => ?_
    refine v_ifb_eq hc 30 dX8_fact_17 rfl ?_ ?_
    · refine v_iconst (x := (-1 : Int32)) hc dX8_fact_30 zi_m1 ?_
      exact v_iret hc hq rfl rfl (Nat.le_of_ble_eq_true rfl) (Nat.le_of_ble_eq_true rfl) rfl dX8_fact_31
    · refine v_iload_n (i := 3) hc 3 rfl dX8_fact_20 rfl ?_
      refine v_iconst (x := (0 : Int32)) hc dX8_fact_21 zi_0 ?_
      refine v_bipush (x := (99 : Int32)) hc dX8_fact_22 zb_99 ?_
      refine v_cB hc (m_S' (As := [.int p2, .int (0 : Int32), .int (99 : Int32)]) (rest := []) 3 hc hr (fun l D tys base => ct8_isFrom l D tys base h p2 (0 : Int32) (99 : Int32)) s8_isFrom w_413 rfl ⟨Nat.le_of_ble_eq_true rfl, Nat.le_of_ble_eq_true rfl⟩ ⟨Nat.le_of_ble_eq_true rfl, Nat.le_of_ble_eq_true rfl⟩ (Nat.le_of_ble_eq_true rfl) dX8_fact_24) fun x24 => ?_
      refine v_ifb_ne hc 32 dX8_fact_27 rfl ?_ ?_
      · refine v_aload_n (i := 0) hc 0 rfl dX8_fact_32 rfl ?_
        refine v_getV hc kX8 0 (by decide) w_378 rfl dX8_fact_33 (gR rfl fun x33 => ?_)
        refine v_getVN hc kX7 3 (by decide) w_188 rfl dX8_fact_36 (gR rfl fun x36 => ?_)
        refine v_iload_n (i := 1) hc 1 rfl dX8_fact_39 rfl ?_
        refine v_sipush (x := (10000 : Int32)) hc dX8_fact_40 zs_10000 ?_
        refine v_imul hc dX8_fact_43 ?_
        refine v_iload_n (i := 2) hc 2 rfl dX8_fact_44 rfl ?_
        refine v_iadd hc dX8_fact_45 ?_
        refine v_iload_n (i := 3) hc 3 rfl dX8_fact_46 rfl ?_
        refine v_cwI hc (m_V' (As := [.int ((p0 * (10000 : Int32)) + p1), .int p2]) (b := x36) (rest := []) 2 hc hr (fun l D tys base => ct2_insert l D tys base h x36 ((p0 * (10000 : Int32)) + p1) p2) (fun x hx => ob2_insert hx) rfl s2_insert w_445 rfl ⟨Nat.le_of_ble_eq_true rfl, Nat.le_of_ble_eq_true rfl⟩ ⟨Nat.le_of_ble_eq_true rfl, Nat.le_of_ble_eq_true rfl⟩ (Nat.le_of_ble_eq_true rfl) dX8_fact_47) fun x47 => ?_
        exact v_iret hc hq rfl rfl (Nat.le_of_ble_eq_true rfl) (Nat.le_of_ble_eq_true rfl) rfl dX8_fact_50
      · refine v_iconst (x := (-1 : Int32)) hc dX8_fact_30 zi_m1 ?_
        exact v_iret hc hq rfl rfl (Nat.le_of_ble_eq_true rfl) (Nat.le_of_ble_eq_true rfl) rfl dX8_fact_31
theorem s8_fact : YV yX8_fact RX8 cX8_fact 4 (some .int) 3 := ⟨w_466, w_464, w_465, w_108, rfl, by decide +kernel, by decide +kernel, by decide +kernel⟩
def f8_piece (h : AH) (this : Nat) (p0 : Int32) (p1 : Int32) (p2 : Int32) (p3 : Int32) (p4 : Int32) (p5 : Int32) (p6 : Int32) (p7 : Int32) : Option (Int32 × AH) := (hObj 8 h this).bind fun _ => (f8_isFrom h p0 (0 : Int32) (2 : Int32)).bind fun x3 => (if x3 = true then (f8_isFrom h p7 (0 : Int32) (9999 : Int32)).bind fun x15 => (if x15 = true then (f8_isHand h p1 p2 p3 p4 p5).bind fun x29 => (if x29 = true then (fR 8 0 h this).bind fun x42 => (fR 7 1 h x42).bind fun x45 => (f5_size h x45).bind fun x48 => (f8_isFrom h p6 (0 : Int32) (((1 : Int32) <<< (x48 &&& 31)) - (1 : Int32))).bind fun x54 => (if x54 = true then (fR 8 0 h this).bind fun x63 => (fR 7 4 h x63).bind fun x66 => (f5_addRow h x66).bind fun x73 => (f5_put x73.2 x66 x73.1 (0 : Int32) p0).bind fun x84 => (f5_put x84 x66 x73.1 (1 : Int32) p1).bind fun x93 => (f5_put x93 x66 x73.1 (2 : Int32) p2).bind fun x102 => (f5_put x102 x66 x73.1 (3 : Int32) p3).bind fun x112 => (f5_put x112 x66 x73.1 (4 : Int32) p4).bind fun x122 => (f5_put x122 x66 x73.1 (5 : Int32) p5).bind fun x132 => (f5_put x132 x66 x73.1 (6 : Int32) p6).bind fun x143 => (f5_put x143 x66 x73.1 (7 : Int32) p7).bind fun x154 => (fR 8 0 x154 this).bind fun x164 => (fI 7 0 x154 x164).bind fun x167 => (f5_put x154 x66 x73.1 (8 : Int32) x167).bind fun x170 => some (x73.1, x170) else some ((-1 : Int32), h)) else some ((-1 : Int32), h)) else some ((-1 : Int32), h)) else some ((-1 : Int32), h))
theorem ob8_piece {h : AH} {this : Nat} {p0 : Int32} {p1 : Int32} {p2 : Int32} {p3 : Int32} {p4 : Int32} {p5 : Int32} {p6 : Int32} {p7 : Int32} {x : Int32 × AH} (e : f8_piece h this p0 p1 p2 p3 p4 p5 p6 p7 = some x) : ∃ fs, hObj 8 h this = some fs := by
  unfold f8_piece at e
  obtain ⟨fs, h1, -⟩ := bd e
  exact ⟨fs, h1⟩
set_option maxRecDepth 100000 in
theorem ct8_piece (l : Launch) (D : va_G) (tys : Tys) (base : Nat) (h : AH) (this : Nat) (p0 : Int32) (p1 : Int32) (p2 : Int32) (p3 : Int32) (p4 : Int32) (p5 : Int32) (p6 : Int32) (p7 : Int32) : Ct l D tys base yX8_piece cX8_piece 11 (some .int) 4 88 0 0 [.ref this, .int p0, .int p1, .int p2, .int p3, .int p4, .int p5, .int p6, .int p7] h (wI) (f8_piece h this p0 p1 p2 p3 p4 p5 p6 p7) := by
  refine Ct.intro (own := RX8) (L := [(0, .ref this), (1, .int p0), (2, .int p1), (3, .int p2), (4, .int p3), (5, .int p4), (6, .int p5), (7, .int p6), (8, .int p7)]) rfl (by decide) rfl (Nat.le_of_ble_eq_true rfl) fun κ hc hr hq hi hL => ?_
  have hn : ∀ i, i < 11 → i < κ.2.2.2.2.1 := fun i q => hL ▸ q
  unfold f8_piece
  refine v_obj ?_
  refine v_iload_n (i := 1) hc 1 rfl dX8_piece_0 rfl ?_
  refine v_iconst (x := (0 : Int32)) hc dX8_piece_1 zi_0 ?_
  refine v_iconst (x := (2 : Int32)) hc dX8_piece_2 zi_2 ?_
  refine v_cB hc (m_S' (As := [.int p0, .int (0 : Int32), .int (2 : Int32)]) (rest := []) 3 hc hr (fun l D tys base => ct8_isFrom l D tys base h p0 (0 : Int32) (2 : Int32)) s8_isFrom w_413 rfl ⟨Nat.le_of_ble_eq_true rfl, Nat.le_of_ble_eq_true rfl⟩ ⟨Nat.le_of_ble_eq_true rfl, Nat.le_of_ble_eq_true rfl⟩ (Nat.le_of_ble_eq_true rfl) dX8_piece_3) fun x3 => ?_
  refine v_ifb_eq hc 35 dX8_piece_6 rfl ?_ ?_
  · refine v_iconst (x := (-1 : Int32)) hc dX8_piece_35 zi_m1 ?_
    exact v_iret hc hq rfl rfl (Nat.le_of_ble_eq_true rfl) (Nat.le_of_ble_eq_true rfl) rfl dX8_piece_36
  · refine v_iload (i := 8) hc 8 rfl dX8_piece_9 ?_
    refine v_iconst (x := (0 : Int32)) hc dX8_piece_11 zi_0 ?_
    refine v_sipush (x := (9999 : Int32)) hc dX8_piece_12 zs_9999 ?_
    refine v_cB hc (m_S' (As := [.int p7, .int (0 : Int32), .int (9999 : Int32)]) (rest := []) 3 hc hr (fun l D tys base => ct8_isFrom l D tys base h p7 (0 : Int32) (9999 : Int32)) s8_isFrom w_413 rfl ⟨Nat.le_of_ble_eq_true rfl, Nat.le_of_ble_eq_true rfl⟩ ⟨Nat.le_of_ble_eq_true rfl, Nat.le_of_ble_eq_true rfl⟩ (Nat.le_of_ble_eq_true rfl) dX8_piece_15) fun x15 => ?_
    refine v_ifb_eq hc 35 dX8_piece_18 rfl ?_ ?_
    · refine v_iconst (x := (-1 : Int32)) hc dX8_piece_35 zi_m1 ?_
      exact v_iret hc hq rfl rfl (Nat.le_of_ble_eq_true rfl) (Nat.le_of_ble_eq_true rfl) rfl dX8_piece_36
    · refine v_iload_n (i := 2) hc 2 rfl dX8_piece_21 rfl ?_
      refine v_iload_n (i := 3) hc 3 rfl dX8_piece_22 rfl ?_
      refine v_iload (i := 4) hc 4 rfl dX8_piece_23 ?_
      refine v_iload (i := 5) hc 5 rfl dX8_piece_25 ?_
      refine v_iload (i := 6) hc 6 rfl dX8_piece_27 ?_
      refine v_cB hc (m_S' (As := [.int p1, .int p2, .int p3, .int p4, .int p5]) (rest := []) 5 hc hr (fun l D tys base => ct8_isHand l D tys base h p1 p2 p3 p4 p5) s8_isHand w_471 rfl ⟨Nat.le_of_ble_eq_true rfl, Nat.le_of_ble_eq_true rfl⟩ ⟨Nat.le_of_ble_eq_true rfl, Nat.le_of_ble_eq_true rfl⟩ (Nat.le_of_ble_eq_true rfl) dX8_piece_29) fun x29 => ?_
      refine v_ifb_ne hc 37 dX8_piece_32 rfl ?_ ?_
      · refine v_iload (i := 7) hc 7 rfl dX8_piece_37 ?_
        refine v_iconst (x := (0 : Int32)) hc dX8_piece_39 zi_0 ?_
        refine v_iconst (x := (1 : Int32)) hc dX8_piece_40 zi_1 ?_
        refine v_aload_n (i := 0) hc 0 rfl dX8_piece_41 rfl ?_
        refine v_getV hc kX8 0 (by decide) w_378 rfl dX8_piece_42 (gR rfl fun x42 => ?_)
        refine v_getVN hc kX7 1 (by decide) w_182 rfl dX8_piece_45 (gR rfl fun x45 => ?_)
        refine v_cI hc (m_V' (As := []) (b := x45) (rest := [.int (1 : Int32), .int (0 : Int32), .int p6]) 0 hc hr (fun l D tys base => ct5_size l D tys base h x45) (fun x hx => ob5_size hx) rfl s5_size w_474 rfl ⟨Nat.le_of_ble_eq_true rfl, Nat.le_of_ble_eq_true rfl⟩ ⟨Nat.le_of_ble_eq_true rfl, Nat.le_of_ble_eq_true rfl⟩ (Nat.le_of_ble_eq_true rfl) dX8_piece_48) fun x48 => ?_
        refine v_ishl hc dX8_piece_51 ?_
        refine v_iconst (x := (1 : Int32)) hc dX8_piece_52 zi_1 ?_
        refine v_isub hc dX8_piece_53 ?_
        refine v_cB hc (m_S' (As := [.int p6, .int (0 : Int32), .int (((1 : Int32) <<< (x48 &&& 31)) - (1 : Int32))]) (rest := []) 3 hc hr (fun l D tys base => ct8_isFrom l D tys base h p6 (0 : Int32) (((1 : Int32) <<< (x48 &&& 31)) - (1 : Int32))) s8_isFrom w_413 rfl ⟨Nat.le_of_ble_eq_true rfl, Nat.le_of_ble_eq_true rfl⟩ ⟨Nat.le_of_ble_eq_true rfl, Nat.le_of_ble_eq_true rfl⟩ (Nat.le_of_ble_eq_true rfl) dX8_piece_54) fun x54 => ?_
        refine v_ifb_ne hc 62 dX8_piece_57 rfl ?_ ?_
        · refine v_aload_n (i := 0) hc 0 rfl dX8_piece_62 rfl ?_
          refine v_getV hc kX8 0 (by decide) w_378 rfl dX8_piece_63 (gR rfl fun x63 => ?_)
          refine v_getVN hc kX7 4 (by decide) w_191 rfl dX8_piece_66 (gR rfl fun x66 => ?_)
          refine v_astore (i := 9) (L' := [(9, .ref x66), (0, .ref this), (1, .int p0), (2, .int p1), (3, .int p2), (4, .int p3), (5, .int p4), (6, .int p5), (7, .int p6), (8, .int p7)]) hc dX8_piece_69 (hn 9 (Nat.le_of_ble_eq_true rfl)) rfl ?_
          refine v_aload (i := 9) hc 0 rfl dX8_piece_71 ?_
          refine v_cwI hc (m_V' (As := []) (b := x66) (rest := []) 0 hc hr (fun l D tys base => ct5_addRow l D tys base h x66) (fun x hx => ob5_addRow hx) rfl s5_addRow w_420 rfl ⟨Nat.le_of_ble_eq_true rfl, Nat.le_of_ble_eq_true rfl⟩ ⟨Nat.le_of_ble_eq_true rfl, Nat.le_of_ble_eq_true rfl⟩ (Nat.le_of_ble_eq_true rfl) dX8_piece_73) fun x73 => ?_
          refine v_istore (i := 10) (L' := [(10, .int x73.1), (9, .ref x66), (0, .ref this), (1, .int p0), (2, .int p1), (3, .int p2), (4, .int p3), (5, .int p4), (6, .int p5), (7, .int p6), (8, .int p7)]) hc dX8_piece_76 (hn 10 (Nat.le_of_ble_eq_true rfl)) rfl ?_
          refine v_aload (i := 9) hc 1 rfl dX8_piece_78 ?_
          refine v_iload (i := 10) hc 0 rfl dX8_piece_80 ?_
          refine v_iconst (x := (0 : Int32)) hc dX8_piece_82 zi_0 ?_
          refine v_iload_n (i := 1) hc 3 rfl dX8_piece_83 rfl ?_
          refine v_cV hc (m_V' (As := [.int x73.1, .int (0 : Int32), .int p0]) (b := x66) (rest := []) 3 hc hr (fun l D tys base => ct5_put l D tys base x73.2 x66 x73.1 (0 : Int32) p0) (fun x hx => ob5_put hx) rfl s5_put w_440 rfl ⟨Nat.le_of_ble_eq_true rfl, Nat.le_of_ble_eq_true rfl⟩ ⟨Nat.le_of_ble_eq_true rfl, Nat.le_of_ble_eq_true rfl⟩ (Nat.le_of_ble_eq_true rfl) dX8_piece_84) fun x84 => ?_
          refine v_aload (i := 9) hc 1 rfl dX8_piece_87 ?_
          refine v_iload (i := 10) hc 0 rfl dX8_piece_89 ?_
          refine v_iconst (x := (1 : Int32)) hc dX8_piece_91 zi_1 ?_
          refine v_iload_n (i := 2) hc 4 rfl dX8_piece_92 rfl ?_
          refine v_cV hc (m_V' (As := [.int x73.1, .int (1 : Int32), .int p1]) (b := x66) (rest := []) 3 hc hr (fun l D tys base => ct5_put l D tys base x84 x66 x73.1 (1 : Int32) p1) (fun x hx => ob5_put hx) rfl s5_put w_440 rfl ⟨Nat.le_of_ble_eq_true rfl, Nat.le_of_ble_eq_true rfl⟩ ⟨Nat.le_of_ble_eq_true rfl, Nat.le_of_ble_eq_true rfl⟩ (Nat.le_of_ble_eq_true rfl) dX8_piece_93) fun x93 => ?_
          refine v_aload (i := 9) hc 1 rfl dX8_piece_96 ?_
          refine v_iload (i := 10) hc 0 rfl dX8_piece_98 ?_
          refine v_iconst (x := (2 : Int32)) hc dX8_piece_100 zi_2 ?_
          refine v_iload_n (i := 3) hc 5 rfl dX8_piece_101 rfl ?_
          refine v_cV hc (m_V' (As := [.int x73.1, .int (2 : Int32), .int p2]) (b := x66) (rest := []) 3 hc hr (fun l D tys base => ct5_put l D tys base x93 x66 x73.1 (2 : Int32) p2) (fun x hx => ob5_put hx) rfl s5_put w_440 rfl ⟨Nat.le_of_ble_eq_true rfl, Nat.le_of_ble_eq_true rfl⟩ ⟨Nat.le_of_ble_eq_true rfl, Nat.le_of_ble_eq_true rfl⟩ (Nat.le_of_ble_eq_true rfl) dX8_piece_102) fun x102 => ?_
          refine v_aload (i := 9) hc 1 rfl dX8_piece_105 ?_
          refine v_iload (i := 10) hc 0 rfl dX8_piece_107 ?_
          refine v_iconst (x := (3 : Int32)) hc dX8_piece_109 zi_3 ?_
          refine v_iload (i := 4) hc 6 rfl dX8_piece_110 ?_
          refine v_cV hc (m_V' (As := [.int x73.1, .int (3 : Int32), .int p3]) (b := x66) (rest := []) 3 hc hr (fun l D tys base => ct5_put l D tys base x102 x66 x73.1 (3 : Int32) p3) (fun x hx => ob5_put hx) rfl s5_put w_440 rfl ⟨Nat.le_of_ble_eq_true rfl, Nat.le_of_ble_eq_true rfl⟩ ⟨Nat.le_of_ble_eq_true rfl, Nat.le_of_ble_eq_true rfl⟩ (Nat.le_of_ble_eq_true rfl) dX8_piece_112) fun x112 => ?_
          refine v_aload (i := 9) hc 1 rfl dX8_piece_115 ?_
          refine v_iload (i := 10) hc 0 rfl dX8_piece_117 ?_
          refine v_iconst (x := (4 : Int32)) hc dX8_piece_119 zi_4 ?_
          refine v_iload (i := 5) hc 7 rfl dX8_piece_120 ?_
          refine v_cV hc (m_V' (As := [.int x73.1, .int (4 : Int32), .int p4]) (b := x66) (rest := []) 3 hc hr (fun l D tys base => ct5_put l D tys base x112 x66 x73.1 (4 : Int32) p4) (fun x hx => ob5_put hx) rfl s5_put w_440 rfl ⟨Nat.le_of_ble_eq_true rfl, Nat.le_of_ble_eq_true rfl⟩ ⟨Nat.le_of_ble_eq_true rfl, Nat.le_of_ble_eq_true rfl⟩ (Nat.le_of_ble_eq_true rfl) dX8_piece_122) fun x122 => ?_
          refine v_aload (i := 9) hc 1 rfl dX8_piece_125 ?_
          refine v_iload (i := 10) hc 0 rfl dX8_piece_127 ?_
          refine v_iconst (x := (5 : Int32)) hc dX8_piece_129 zi_5 ?_
          refine v_iload (i := 6) hc 8 rfl dX8_piece_130 ?_
          refine v_cV hc (m_V' (As := [.int x73.1, .int (5 : Int32), .int p5]) (b := x66) (rest := []) 3 hc hr (fun l D tys base => ct5_put l D tys base x122 x66 x73.1 (5 : Int32) p5) (fun x hx => ob5_put hx) rfl s5_put w_440 rfl ⟨Nat.le_of_ble_eq_true rfl, Nat.le_of_ble_eq_true rfl⟩ ⟨Nat.le_of_ble_eq_true rfl, Nat.le_of_ble_eq_true rfl⟩ (Nat.le_of_ble_eq_true rfl) dX8_piece_132) fun x132 => ?_
          refine v_aload (i := 9) hc 1 rfl dX8_piece_135 ?_
          refine v_iload (i := 10) hc 0 rfl dX8_piece_137 ?_
          refine v_bipush (x := (6 : Int32)) hc dX8_piece_139 zb_6 ?_
          refine v_iload (i := 7) hc 9 rfl dX8_piece_141 ?_
          refine v_cV hc (m_V' (As := [.int x73.1, .int (6 : Int32), .int p6]) (b := x66) (rest := []) 3 hc hr (fun l D tys base => ct5_put l D tys base x132 x66 x73.1 (6 : Int32) p6) (fun x hx => ob5_put hx) rfl s5_put w_440 rfl ⟨Nat.le_of_ble_eq_true rfl, Nat.le_of_ble_eq_true rfl⟩ ⟨Nat.le_of_ble_eq_true rfl, Nat.le_of_ble_eq_true rfl⟩ (Nat.le_of_ble_eq_true rfl) dX8_piece_143) fun x143 => ?_
          refine v_aload (i := 9) hc 1 rfl dX8_piece_146 ?_
          refine v_iload (i := 10) hc 0 rfl dX8_piece_148 ?_
          refine v_bipush (x := (7 : Int32)) hc dX8_piece_150 zb_7 ?_
          refine v_iload (i := 8) hc 10 rfl dX8_piece_152 ?_
          refine v_cV hc (m_V' (As := [.int x73.1, .int (7 : Int32), .int p7]) (b := x66) (rest := []) 3 hc hr (fun l D tys base => ct5_put l D tys base x143 x66 x73.1 (7 : Int32) p7) (fun x hx => ob5_put hx) rfl s5_put w_440 rfl ⟨Nat.le_of_ble_eq_true rfl, Nat.le_of_ble_eq_true rfl⟩ ⟨Nat.le_of_ble_eq_true rfl, Nat.le_of_ble_eq_true rfl⟩ (Nat.le_of_ble_eq_true rfl) dX8_piece_154) fun x154 => ?_
          refine v_aload (i := 9) hc 1 rfl dX8_piece_157 ?_
          refine v_iload (i := 10) hc 0 rfl dX8_piece_159 ?_
          refine v_bipush (x := (8 : Int32)) hc dX8_piece_161 zb_8 ?_
          refine v_aload_n (i := 0) hc 2 rfl dX8_piece_163 rfl ?_
          refine v_getV hc kX8 0 (by decide) w_378 rfl dX8_piece_164 (gR rfl fun x164 => ?_)
          refine v_getVN hc kX7 0 (by decide) w_180 rfl dX8_piece_167 (gI rfl fun x167 => ?_)
          refine v_cV hc (m_V' (As := [.int x73.1, .int (8 : Int32), .int x167]) (b := x66) (rest := []) 3 hc hr (fun l D tys base => ct5_put l D tys base x154 x66 x73.1 (8 : Int32) x167) (fun x hx => ob5_put hx) rfl s5_put w_440 rfl ⟨Nat.le_of_ble_eq_true rfl, Nat.le_of_ble_eq_true rfl⟩ ⟨Nat.le_of_ble_eq_true rfl, Nat.le_of_ble_eq_true rfl⟩ (Nat.le_of_ble_eq_true rfl) dX8_piece_170) fun x170 => ?_
          refine v_iload (i := 10) hc 0 rfl dX8_piece_173 ?_
          exact v_iret hc hq rfl rfl (Nat.le_of_ble_eq_true rfl) (Nat.le_of_ble_eq_true rfl) rfl dX8_piece_175
        · refine v_iconst (x := (-1 : Int32)) hc dX8_piece_60 zi_m1 ?_
          exact v_iret hc hq rfl rfl (Nat.le_of_ble_eq_true rfl) (Nat.le_of_ble_eq_true rfl) rfl dX8_piece_61
      · refine v_iconst (x := (-1 : Int32)) hc dX8_piece_35 zi_m1 ?_
        exact v_iret hc hq rfl rfl (Nat.le_of_ble_eq_true rfl) (Nat.le_of_ble_eq_true rfl) rfl dX8_piece_36
theorem s8_piece : YV yX8_piece RX8 cX8_piece 11 (some .int) 8 := ⟨w_470, w_468, w_469, w_108, rfl, by decide +kernel, by decide +kernel, by decide +kernel⟩
def f8_page (h : AH) (this : Nat) (p0 : Int32) (p1 : Int32) (p2 : Int32) : Option (Int32 × AH) := (hObj 8 h this).bind fun _ => (fR 8 0 h this).bind fun x1 => (fR 7 4 h x1).bind fun x4 => (f5_has h x4 p0).bind fun x8 => (if x8 = true then (f8_isFrom h p1 (0 : Int32) (9999 : Int32)).bind fun x19 => (if x19 = true then (f8_isFrom h p2 (0 : Int32) (99 : Int32)).bind fun x29 => (if x29 = true then (fR 8 0 h this).bind fun x38 => (fR 7 5 h x38).bind fun x41 => (f2_insert h x41 ((p0 * (10000 : Int32)) + p1) p2).bind fun x52 => some (x52.1, x52.2) else some ((-1 : Int32), h)) else some ((-1 : Int32), h)) else some ((-1 : Int32), h))
theorem ob8_page {h : AH} {this : Nat} {p0 : Int32} {p1 : Int32} {p2 : Int32} {x : Int32 × AH} (e : f8_page h this p0 p1 p2 = some x) : ∃ fs, hObj 8 h this = some fs := by
  unfold f8_page at e
  obtain ⟨fs, h1, -⟩ := bd e
  exact ⟨fs, h1⟩
set_option maxRecDepth 100000 in
theorem ct8_page (l : Launch) (D : va_G) (tys : Tys) (base : Nat) (h : AH) (this : Nat) (p0 : Int32) (p1 : Int32) (p2 : Int32) : Ct l D tys base yX8_page cX8_page 4 (some .int) 3 87 0 0 [.ref this, .int p0, .int p1, .int p2] h (wI) (f8_page h this p0 p1 p2) := by
  refine Ct.intro (own := RX8) (L := [(0, .ref this), (1, .int p0), (2, .int p1), (3, .int p2)]) rfl (by decide) rfl (Nat.le_of_ble_eq_true rfl) fun κ hc hr hq hi hL => ?_
  have hn : ∀ i, i < 4 → i < κ.2.2.2.2.1 := fun i q => hL ▸ q
  unfold f8_page
  refine v_obj ?_
  refine v_aload_n (i := 0) hc 0 rfl dX8_page_0 rfl ?_
  refine v_getV hc kX8 0 (by decide) w_378 rfl dX8_page_1 (gR rfl fun x1 => ?_)
  refine v_getVN hc kX7 4 (by decide) w_191 rfl dX8_page_4 (gR rfl fun x4 => ?_)
  refine v_iload_n (i := 1) hc 1 rfl dX8_page_7 rfl ?_
  refine v_cB hc (m_V' (As := [.int p0]) (b := x4) (rest := []) 1 hc hr (fun l D tys base => ct5_has l D tys base h x4 p0) (fun x hx => ob5_has hx) rfl s5_has w_482 rfl ⟨Nat.le_of_ble_eq_true rfl, Nat.le_of_ble_eq_true rfl⟩ ⟨Nat.le_of_ble_eq_true rfl, Nat.le_of_ble_eq_true rfl⟩ (Nat.le_of_ble_eq_true rfl) dX8_page_8) fun x8 => ?_
  refine v_ifb_eq hc 35 dX8_page_11 rfl ?_ ?_
  · refine v_iconst (x := (-1 : Int32)) hc dX8_page_35 zi_m1 ?_
    exact v_iret hc hq rfl rfl (Nat.le_of_ble_eq_true rfl) (Nat.le_of_ble_eq_true rfl) rfl dX8_page_36
  · refine v_iload_n (i := 2) hc 2 rfl dX8_page_14 rfl ?_
    refine v_iconst (x := (0 : Int32)) hc dX8_page_15 zi_0 ?_
    refine v_sipush (x := (9999 : Int32)) hc dX8_page_16 zs_9999 ?_
    refine v_cB hc (m_S' (As := [.int p1, .int (0 : Int32), .int (9999 : Int32)]) (rest := []) 3 hc hr (fun l D tys base => ct8_isFrom l D tys base h p1 (0 : Int32) (9999 : Int32)) s8_isFrom w_413 rfl ⟨Nat.le_of_ble_eq_true rfl, Nat.le_of_ble_eq_true rfl⟩ ⟨Nat.le_of_ble_eq_true rfl, Nat.le_of_ble_eq_true rfl⟩ (Nat.le_of_ble_eq_true rfl) dX8_page_19) fun x19 => ?_
    refine v_ifb_eq hc 35 dX8_page_22 rfl ?_ ?_
    · refine v_iconst (x := (-1 : Int32)) hc dX8_page_35 zi_m1 ?_
      exact v_iret hc hq rfl rfl (Nat.le_of_ble_eq_true rfl) (Nat.le_of_ble_eq_true rfl) rfl dX8_page_36
    · refine v_iload_n (i := 3) hc 3 rfl dX8_page_25 rfl ?_
      refine v_iconst (x := (0 : Int32)) hc dX8_page_26 zi_0 ?_
      refine v_bipush (x := (99 : Int32)) hc dX8_page_27 zb_99 ?_
      refine v_cB hc (m_S' (As := [.int p2, .int (0 : Int32), .int (99 : Int32)]) (rest := []) 3 hc hr (fun l D tys base => ct8_isFrom l D tys base h p2 (0 : Int32) (99 : Int32)) s8_isFrom w_413 rfl ⟨Nat.le_of_ble_eq_true rfl, Nat.le_of_ble_eq_true rfl⟩ ⟨Nat.le_of_ble_eq_true rfl, Nat.le_of_ble_eq_true rfl⟩ (Nat.le_of_ble_eq_true rfl) dX8_page_29) fun x29 => ?_
      refine v_ifb_ne hc 37 dX8_page_32 rfl ?_ ?_
      · refine v_aload_n (i := 0) hc 0 rfl dX8_page_37 rfl ?_
        refine v_getV hc kX8 0 (by decide) w_378 rfl dX8_page_38 (gR rfl fun x38 => ?_)
        refine v_getVN hc kX7 5 (by decide) w_194 rfl dX8_page_41 (gR rfl fun x41 => ?_)
        refine v_iload_n (i := 1) hc 1 rfl dX8_page_44 rfl ?_
        refine v_sipush (x := (10000 : Int32)) hc dX8_page_45 zs_10000 ?_
        refine v_imul hc dX8_page_48 ?_
        refine v_iload_n (i := 2) hc 2 rfl dX8_page_49 rfl ?_
        refine v_iadd hc dX8_page_50 ?_
        refine v_iload_n (i := 3) hc 3 rfl dX8_page_51 rfl ?_
        refine v_cwI hc (m_V' (As := [.int ((p0 * (10000 : Int32)) + p1), .int p2]) (b := x41) (rest := []) 2 hc hr (fun l D tys base => ct2_insert l D tys base h x41 ((p0 * (10000 : Int32)) + p1) p2) (fun x hx => ob2_insert hx) rfl s2_insert w_445 rfl ⟨Nat.le_of_ble_eq_true rfl, Nat.le_of_ble_eq_true rfl⟩ ⟨Nat.le_of_ble_eq_true rfl, Nat.le_of_ble_eq_true rfl⟩ (Nat.le_of_ble_eq_true rfl) dX8_page_52) fun x52 => ?_
        exact v_iret hc hq rfl rfl (Nat.le_of_ble_eq_true rfl) (Nat.le_of_ble_eq_true rfl) rfl dX8_page_55
      · refine v_iconst (x := (-1 : Int32)) hc dX8_page_35 zi_m1 ?_
        exact v_iret hc hq rfl rfl (Nat.le_of_ble_eq_true rfl) (Nat.le_of_ble_eq_true rfl) rfl dX8_page_36
theorem s8_page : YV yX8_page RX8 cX8_page 4 (some .int) 3 := ⟨w_481, w_479, w_480, w_108, rfl, by decide +kernel, by decide +kernel, by decide +kernel⟩
def f8_of (h : AH) (this : Nat) (p0 : Int32) (p1 : Int32) : Option (Int32) := (hObj 8 h this).bind fun _ => (fR 8 0 h this).bind fun x1 => (fR 7 4 h x1).bind fun x4 => (f5_has h x4 p0).bind fun x8 => (if x8 = true then (if p1 = (0 : Int32) then (fR 8 0 h this).bind fun x65 => (f7_pagesOf h x65 p0).bind fun x69 => some x69 else (if p1 = (1 : Int32) then (fR 8 0 h this).bind fun x74 => (f7_wrongPages h x74 p0).bind fun x78 => some x78 else (if p1 = (2 : Int32) then (fR 8 0 h this).bind fun x83 => (f7_sharedPages h x83 p0).bind fun x87 => some x87 else (if p1 = (3 : Int32) then (fR 8 0 h this).bind fun x92 => (f7_nowherePages h x92 p0).bind fun x96 => some x96 else (if p1 = (4 : Int32) then (fR 8 0 h this).bind fun x101 => (f7_ageOf h x101 p0).bind fun x105 => some x105 else (if p1 = (5 : Int32) then (fR 8 0 h this).bind fun x110 => (fR 7 4 h x110).bind fun x113 => (f5_at h x113 p0 (8 : Int32)).bind fun x119 => some x119 else (if p1 = (6 : Int32) then (fR 8 0 h this).bind fun x124 => (fR 7 4 h x124).bind fun x127 => (f5_at h x127 p0 (6 : Int32)).bind fun x133 => some x133 else (if p1 = (7 : Int32) then (fR 8 0 h this).bind fun x138 => (f7_tooYoung h x138 p0).bind fun x142 => some x142 else some (-1 : Int32))))))))) else some (-1 : Int32))
theorem ob8_of {h : AH} {this : Nat} {p0 : Int32} {p1 : Int32} {x : Int32} (e : f8_of h this p0 p1 = some x) : ∃ fs, hObj 8 h this = some fs := by
  unfold f8_of at e
  obtain ⟨fs, h1, -⟩ := bd e
  exact ⟨fs, h1⟩
set_option maxRecDepth 100000 in
theorem ct8_of (l : Launch) (D : va_G) (tys : Tys) (base : Nat) (h : AH) (this : Nat) (p0 : Int32) (p1 : Int32) : Ct l D tys base yX8_of cX8_of 3 (some .int) 5 136 0 0 [.ref this, .int p0, .int p1] h (rI h) (f8_of h this p0 p1) := by
  refine Ct.intro (own := RX8) (L := [(0, .ref this), (1, .int p0), (2, .int p1)]) rfl (by decide) rfl (Nat.le_of_ble_eq_true rfl) fun κ hc hr hq hi hL => ?_
  have hn : ∀ i, i < 3 → i < κ.2.2.2.2.1 := fun i q => hL ▸ q
  unfold f8_of
  refine v_obj ?_
  refine v_aload_n (i := 0) hc 0 rfl dX8_of_0 rfl ?_
  refine v_getV hc kX8 0 (by decide) w_378 rfl dX8_of_1 (gR rfl fun x1 => ?_)
  refine v_getVN hc kX7 4 (by decide) w_191 rfl dX8_of_4 (gR rfl fun x4 => ?_)
  refine v_iload_n (i := 1) hc 1 rfl dX8_of_7 rfl ?_
  refine v_cB hc (m_V' (As := [.int p0]) (b := x4) (rest := []) 1 hc hr (fun l D tys base => ct5_has l D tys base h x4 p0) (fun x hx => ob5_has hx) rfl s5_has w_482 rfl ⟨Nat.le_of_ble_eq_true rfl, Nat.le_of_ble_eq_true rfl⟩ ⟨Nat.le_of_ble_eq_true rfl, Nat.le_of_ble_eq_true rfl⟩ (Nat.le_of_ble_eq_true rfl) dX8_of_8) fun x8 => ?_
  refine v_ifb_ne hc 16 dX8_of_11 rfl ?_ ?_
  · refine v_iload_n (i := 2) hc 2 rfl dX8_of_16 rfl ?_
    refine v_ite (fun q0 => ?_) (fun q0 => ?_)
    · refine v_tIn hc (0 : Int32) q0 64 dX8_of_17 (by decide) (by decide) rfl rfl ?_
      refine v_aload_n (i := 0) hc 0 rfl dX8_of_64 rfl ?_
      refine v_getV hc kX8 0 (by decide) w_378 rfl dX8_of_65 (gR rfl fun x65 => ?_)
      refine v_iload_n (i := 1) hc 1 rfl dX8_of_68 rfl ?_
      refine v_cI hc (m_V' (As := [.int p0]) (b := x65) (rest := []) 1 hc hr (fun l D tys base => ct7_pagesOf l D tys base h x65 p0) (fun x hx => ob7_pagesOf hx) rfl s7_pagesOf w_487 rfl ⟨Nat.le_of_ble_eq_true rfl, Nat.le_of_ble_eq_true rfl⟩ ⟨Nat.le_of_ble_eq_true rfl, Nat.le_of_ble_eq_true rfl⟩ (Nat.le_of_ble_eq_true rfl) dX8_of_69) fun x69 => ?_
      exact v_iret hc hq rfl rfl (Nat.le_of_ble_eq_true rfl) (Nat.le_of_ble_eq_true rfl) rfl dX8_of_72
    · refine v_ite (fun q1 => ?_) (fun q1 => ?_)
      · refine v_tIn hc (1 : Int32) q1 73 dX8_of_17 (by decide) (by decide) rfl rfl ?_
        refine v_aload_n (i := 0) hc 0 rfl dX8_of_73 rfl ?_
        refine v_getV hc kX8 0 (by decide) w_378 rfl dX8_of_74 (gR rfl fun x74 => ?_)
        refine v_iload_n (i := 1) hc 1 rfl dX8_of_77 rfl ?_
        refine v_cI hc (m_V' (As := [.int p0]) (b := x74) (rest := []) 1 hc hr (fun l D tys base => ct7_wrongPages l D tys base h x74 p0) (fun x hx => ob7_wrongPages hx) rfl s7_wrongPages w_500 rfl ⟨Nat.le_of_ble_eq_true rfl, Nat.le_of_ble_eq_true rfl⟩ ⟨Nat.le_of_ble_eq_true rfl, Nat.le_of_ble_eq_true rfl⟩ (Nat.le_of_ble_eq_true rfl) dX8_of_78) fun x78 => ?_
        exact v_iret hc hq rfl rfl (Nat.le_of_ble_eq_true rfl) (Nat.le_of_ble_eq_true rfl) rfl dX8_of_81
      · refine v_ite (fun q2 => ?_) (fun q2 => ?_)
        · refine v_tIn hc (2 : Int32) q2 82 dX8_of_17 (by decide) (by decide) rfl rfl ?_
          refine v_aload_n (i := 0) hc 0 rfl dX8_of_82 rfl ?_
          refine v_getV hc kX8 0 (by decide) w_378 rfl dX8_of_83 (gR rfl fun x83 => ?_)
          refine v_iload_n (i := 1) hc 1 rfl dX8_of_86 rfl ?_
          refine v_cI hc (m_V' (As := [.int p0]) (b := x83) (rest := []) 1 hc hr (fun l D tys base => ct7_sharedPages l D tys base h x83 p0) (fun x hx => ob7_sharedPages hx) rfl s7_sharedPages w_522 rfl ⟨Nat.le_of_ble_eq_true rfl, Nat.le_of_ble_eq_true rfl⟩ ⟨Nat.le_of_ble_eq_true rfl, Nat.le_of_ble_eq_true rfl⟩ (Nat.le_of_ble_eq_true rfl) dX8_of_87) fun x87 => ?_
          exact v_iret hc hq rfl rfl (Nat.le_of_ble_eq_true rfl) (Nat.le_of_ble_eq_true rfl) rfl dX8_of_90
        · refine v_ite (fun q3 => ?_) (fun q3 => ?_)
          · refine v_tIn hc (3 : Int32) q3 91 dX8_of_17 (by decide) (by decide) rfl rfl ?_
            refine v_aload_n (i := 0) hc 0 rfl dX8_of_91 rfl ?_
            refine v_getV hc kX8 0 (by decide) w_378 rfl dX8_of_92 (gR rfl fun x92 => ?_)
            refine v_iload_n (i := 1) hc 1 rfl dX8_of_95 rfl ?_
            refine v_cI hc (m_V' (As := [.int p0]) (b := x92) (rest := []) 1 hc hr (fun l D tys base => ct7_nowherePages l D tys base h x92 p0) (fun x hx => ob7_nowherePages hx) rfl s7_nowherePages w_530 rfl ⟨Nat.le_of_ble_eq_true rfl, Nat.le_of_ble_eq_true rfl⟩ ⟨Nat.le_of_ble_eq_true rfl, Nat.le_of_ble_eq_true rfl⟩ (Nat.le_of_ble_eq_true rfl) dX8_of_96) fun x96 => ?_
            exact v_iret hc hq rfl rfl (Nat.le_of_ble_eq_true rfl) (Nat.le_of_ble_eq_true rfl) rfl dX8_of_99
          · refine v_ite (fun q4 => ?_) (fun q4 => ?_)
            · refine v_tIn hc (4 : Int32) q4 100 dX8_of_17 (by decide) (by decide) rfl rfl ?_
              refine v_aload_n (i := 0) hc 0 rfl dX8_of_100 rfl ?_
              refine v_getV hc kX8 0 (by decide) w_378 rfl dX8_of_101 (gR rfl fun x101 => ?_)
              refine v_iload_n (i := 1) hc 1 rfl dX8_of_104 rfl ?_
              refine v_cI hc (m_V' (As := [.int p0]) (b := x101) (rest := []) 1 hc hr (fun l D tys base => ct7_ageOf l D tys base h x101 p0) (fun x hx => ob7_ageOf hx) rfl s7_ageOf w_542 rfl ⟨Nat.le_of_ble_eq_true rfl, Nat.le_of_ble_eq_true rfl⟩ ⟨Nat.le_of_ble_eq_true rfl, Nat.le_of_ble_eq_true rfl⟩ (Nat.le_of_ble_eq_true rfl) dX8_of_105) fun x105 => ?_
              exact v_iret hc hq rfl rfl (Nat.le_of_ble_eq_true rfl) (Nat.le_of_ble_eq_true rfl) rfl dX8_of_108
            · refine v_ite (fun q5 => ?_) (fun q5 => ?_)
              · refine v_tIn hc (5 : Int32) q5 109 dX8_of_17 (by decide) (by decide) rfl rfl ?_
                refine v_aload_n (i := 0) hc 0 rfl dX8_of_109 rfl ?_
                refine v_getV hc kX8 0 (by decide) w_378 rfl dX8_of_110 (gR rfl fun x110 => ?_)
                refine v_getVN hc kX7 4 (by decide) w_191 rfl dX8_of_113 (gR rfl fun x113 => ?_)
                refine v_iload_n (i := 1) hc 1 rfl dX8_of_116 rfl ?_
                refine v_bipush (x := (8 : Int32)) hc dX8_of_117 zb_8 ?_
                refine v_cI hc (m_V' (As := [.int p0, .int (8 : Int32)]) (b := x113) (rest := []) 2 hc hr (fun l D tys base => ct5_at l D tys base h x113 p0 (8 : Int32)) (fun x hx => ob5_at hx) rfl s5_at w_546 rfl ⟨Nat.le_of_ble_eq_true rfl, Nat.le_of_ble_eq_true rfl⟩ ⟨Nat.le_of_ble_eq_true rfl, Nat.le_of_ble_eq_true rfl⟩ (Nat.le_of_ble_eq_true rfl) dX8_of_119) fun x119 => ?_
                exact v_iret hc hq rfl rfl (Nat.le_of_ble_eq_true rfl) (Nat.le_of_ble_eq_true rfl) rfl dX8_of_122
              · refine v_ite (fun q6 => ?_) (fun q6 => ?_)
                · refine v_tIn hc (6 : Int32) q6 123 dX8_of_17 (by decide) (by decide) rfl rfl ?_
                  refine v_aload_n (i := 0) hc 0 rfl dX8_of_123 rfl ?_
                  refine v_getV hc kX8 0 (by decide) w_378 rfl dX8_of_124 (gR rfl fun x124 => ?_)
                  refine v_getVN hc kX7 4 (by decide) w_191 rfl dX8_of_127 (gR rfl fun x127 => ?_)
                  refine v_iload_n (i := 1) hc 1 rfl dX8_of_130 rfl ?_
                  refine v_bipush (x := (6 : Int32)) hc dX8_of_131 zb_6 ?_
                  refine v_cI hc (m_V' (As := [.int p0, .int (6 : Int32)]) (b := x127) (rest := []) 2 hc hr (fun l D tys base => ct5_at l D tys base h x127 p0 (6 : Int32)) (fun x hx => ob5_at hx) rfl s5_at w_546 rfl ⟨Nat.le_of_ble_eq_true rfl, Nat.le_of_ble_eq_true rfl⟩ ⟨Nat.le_of_ble_eq_true rfl, Nat.le_of_ble_eq_true rfl⟩ (Nat.le_of_ble_eq_true rfl) dX8_of_133) fun x133 => ?_
                  exact v_iret hc hq rfl rfl (Nat.le_of_ble_eq_true rfl) (Nat.le_of_ble_eq_true rfl) rfl dX8_of_136
                · refine v_ite (fun q7 => ?_) (fun q7 => ?_)
                  · refine v_tIn hc (7 : Int32) q7 137 dX8_of_17 (by decide) (by decide) rfl rfl ?_
                    refine v_aload_n (i := 0) hc 0 rfl dX8_of_137 rfl ?_
                    refine v_getV hc kX8 0 (by decide) w_378 rfl dX8_of_138 (gR rfl fun x138 => ?_)
                    refine v_iload_n (i := 1) hc 1 rfl dX8_of_141 rfl ?_
                    refine v_cI hc (m_V' (As := [.int p0]) (b := x138) (rest := []) 1 hc hr (fun l D tys base => ct7_tooYoung l D tys base h x138 p0) (fun x hx => ob7_tooYoung hx) rfl s7_tooYoung w_550 rfl ⟨Nat.le_of_ble_eq_true rfl, Nat.le_of_ble_eq_true rfl⟩ ⟨Nat.le_of_ble_eq_true rfl, Nat.le_of_ble_eq_true rfl⟩ (Nat.le_of_ble_eq_true rfl) dX8_of_142) fun x142 => ?_
                    exact v_iret hc hq rfl rfl (Nat.le_of_ble_eq_true rfl) (Nat.le_of_ble_eq_true rfl) rfl dX8_of_145
                  · refine v_tOut hc 146 dX8_of_17 (by have e0 := lv_neT (a := 0) q0 (by decide); have e1 := lv_neT (a := 1) q1 (by decide); have e2 := lv_neT (a := 2) q2 (by decide); have e3 := lv_neT (a := 3) q3 (by decide); have e4 := lv_neT (a := 4) q4 (by decide); have e5 := lv_neT (a := 5) q5 (by decide); have e6 := lv_neT (a := 6) q6 (by decide); have e7 := lv_neT (a := 7) q7 (by decide); omega) rfl ?_
                    refine v_iconst (x := (-1 : Int32)) hc dX8_of_146 zi_m1 ?_
                    exact v_iret hc hq rfl rfl (Nat.le_of_ble_eq_true rfl) (Nat.le_of_ble_eq_true rfl) rfl dX8_of_147
  · refine v_iconst (x := (-1 : Int32)) hc dX8_of_14 zi_m1 ?_
    exact v_iret hc hq rfl rfl (Nat.le_of_ble_eq_true rfl) (Nat.le_of_ble_eq_true rfl) rfl dX8_of_15
theorem s8_of : YV yX8_of RX8 cX8_of 3 (some .int) 2 := ⟨w_486, w_484, w_485, w_108, rfl, by decide +kernel, by decide +kernel, by decide +kernel⟩
def f8_shared (h : AH) (this : Nat) (p0 : Int32) (p1 : Int32) : Option (Int32) := (hObj 8 h this).bind fun _ => (fR 8 0 h this).bind fun x1 => (fR 7 4 h x1).bind fun x4 => (f5_has h x4 p0).bind fun x8 => (if x8 = true then (f8_isFrom h p1 (0 : Int32) (5 : Int32)).bind fun x17 => (if x17 = true then (fR 8 0 h this).bind fun x26 => (f7_pagesSharedWith h x26 p0 p1).bind fun x31 => some x31 else some (-1 : Int32)) else some (-1 : Int32))
theorem ob8_shared {h : AH} {this : Nat} {p0 : Int32} {p1 : Int32} {x : Int32} (e : f8_shared h this p0 p1 = some x) : ∃ fs, hObj 8 h this = some fs := by
  unfold f8_shared at e
  obtain ⟨fs, h1, -⟩ := bd e
  exact ⟨fs, h1⟩
set_option maxRecDepth 100000 in
theorem ct8_shared (l : Launch) (D : va_G) (tys : Tys) (base : Nat) (h : AH) (this : Nat) (p0 : Int32) (p1 : Int32) : Ct l D tys base yX8_shared cX8_shared 3 (some .int) 5 137 0 0 [.ref this, .int p0, .int p1] h (rI h) (f8_shared h this p0 p1) := by
  refine Ct.intro (own := RX8) (L := [(0, .ref this), (1, .int p0), (2, .int p1)]) rfl (by decide) rfl (Nat.le_of_ble_eq_true rfl) fun κ hc hr hq hi hL => ?_
  have hn : ∀ i, i < 3 → i < κ.2.2.2.2.1 := fun i q => hL ▸ q
  unfold f8_shared
  refine v_obj ?_
  refine v_aload_n (i := 0) hc 0 rfl dX8_shared_0 rfl ?_
  refine v_getV hc kX8 0 (by decide) w_378 rfl dX8_shared_1 (gR rfl fun x1 => ?_)
  refine v_getVN hc kX7 4 (by decide) w_191 rfl dX8_shared_4 (gR rfl fun x4 => ?_)
  refine v_iload_n (i := 1) hc 1 rfl dX8_shared_7 rfl ?_
  refine v_cB hc (m_V' (As := [.int p0]) (b := x4) (rest := []) 1 hc hr (fun l D tys base => ct5_has l D tys base h x4 p0) (fun x hx => ob5_has hx) rfl s5_has w_482 rfl ⟨Nat.le_of_ble_eq_true rfl, Nat.le_of_ble_eq_true rfl⟩ ⟨Nat.le_of_ble_eq_true rfl, Nat.le_of_ble_eq_true rfl⟩ (Nat.le_of_ble_eq_true rfl) dX8_shared_8) fun x8 => ?_
  refine v_ifb_eq hc 23 dX8_shared_11 rfl ?_ ?_
  · refine v_iconst (x := (-1 : Int32)) hc dX8_shared_23 zi_m1 ?_
    exact v_iret hc hq rfl rfl (Nat.le_of_ble_eq_true rfl) (Nat.le_of_ble_eq_true rfl) rfl dX8_shared_24
  · refine v_iload_n (i := 2) hc 2 rfl dX8_shared_14 rfl ?_
    refine v_iconst (x := (0 : Int32)) hc dX8_shared_15 zi_0 ?_
    refine v_iconst (x := (5 : Int32)) hc dX8_shared_16 zi_5 ?_
    refine v_cB hc (m_S' (As := [.int p1, .int (0 : Int32), .int (5 : Int32)]) (rest := []) 3 hc hr (fun l D tys base => ct8_isFrom l D tys base h p1 (0 : Int32) (5 : Int32)) s8_isFrom w_413 rfl ⟨Nat.le_of_ble_eq_true rfl, Nat.le_of_ble_eq_true rfl⟩ ⟨Nat.le_of_ble_eq_true rfl, Nat.le_of_ble_eq_true rfl⟩ (Nat.le_of_ble_eq_true rfl) dX8_shared_17) fun x17 => ?_
    refine v_ifb_ne hc 25 dX8_shared_20 rfl ?_ ?_
    · refine v_aload_n (i := 0) hc 0 rfl dX8_shared_25 rfl ?_
      refine v_getV hc kX8 0 (by decide) w_378 rfl dX8_shared_26 (gR rfl fun x26 => ?_)
      refine v_iload_n (i := 1) hc 1 rfl dX8_shared_29 rfl ?_
      refine v_iload_n (i := 2) hc 2 rfl dX8_shared_30 rfl ?_
      refine v_cI hc (m_V' (As := [.int p0, .int p1]) (b := x26) (rest := []) 2 hc hr (fun l D tys base => ct7_pagesSharedWith l D tys base h x26 p0 p1) (fun x hx => ob7_pagesSharedWith hx) rfl s7_pagesSharedWith w_564 rfl ⟨Nat.le_of_ble_eq_true rfl, Nat.le_of_ble_eq_true rfl⟩ ⟨Nat.le_of_ble_eq_true rfl, Nat.le_of_ble_eq_true rfl⟩ (Nat.le_of_ble_eq_true rfl) dX8_shared_31) fun x31 => ?_
      exact v_iret hc hq rfl rfl (Nat.le_of_ble_eq_true rfl) (Nat.le_of_ble_eq_true rfl) rfl dX8_shared_34
    · refine v_iconst (x := (-1 : Int32)) hc dX8_shared_23 zi_m1 ?_
      exact v_iret hc hq rfl rfl (Nat.le_of_ble_eq_true rfl) (Nat.le_of_ble_eq_true rfl) rfl dX8_shared_24
theorem s8_shared : YV yX8_shared RX8 cX8_shared 3 (some .int) 2 := ⟨w_563, w_561, w_562, w_108, rfl, by decide +kernel, by decide +kernel, by decide +kernel⟩
def f8_feed (h : AH) (this : Nat) (p0 : Int32) (p1 : Int32) (p2 : Int32) (p3 : Int32) (p4 : Int32) : Option (Int32 × AH) := (hObj 8 h this).bind fun _ => (fR 8 2 h this).bind fun x1 => (f6_size h x1).bind fun x4 => (if (x4 + (20 : Int32)) ≤ (400 : Int32) then (fR 8 2 h this).bind fun x19 => (f6_addFour h x19 p0).bind fun x23 => (fR 8 2 x23 this).bind fun x27 => (f6_addFour x23 x27 p1).bind fun x31 => (fR 8 2 x31 this).bind fun x35 => (f6_addFour x31 x35 p2).bind fun x39 => (fR 8 2 x39 this).bind fun x43 => (f6_addFour x39 x43 p3).bind fun x48 => (fR 8 2 x48 this).bind fun x52 => (f6_addFour x48 x52 p4).bind fun x57 => (fR 8 2 x57 this).bind fun x61 => (f6_size x57 x61).bind fun x64 => some (x64, x57) else some ((-1 : Int32), h))
theorem ob8_feed {h : AH} {this : Nat} {p0 : Int32} {p1 : Int32} {p2 : Int32} {p3 : Int32} {p4 : Int32} {x : Int32 × AH} (e : f8_feed h this p0 p1 p2 p3 p4 = some x) : ∃ fs, hObj 8 h this = some fs := by
  unfold f8_feed at e
  obtain ⟨fs, h1, -⟩ := bd e
  exact ⟨fs, h1⟩
set_option maxRecDepth 100000 in
theorem ct8_feed (l : Launch) (D : va_G) (tys : Tys) (base : Nat) (h : AH) (this : Nat) (p0 : Int32) (p1 : Int32) (p2 : Int32) (p3 : Int32) (p4 : Int32) : Ct l D tys base yX8_feed cX8_feed 6 (some .int) 1 22 0 0 [.ref this, .int p0, .int p1, .int p2, .int p3, .int p4] h (wI) (f8_feed h this p0 p1 p2 p3 p4) := by
  refine Ct.intro (own := RX8) (L := [(0, .ref this), (1, .int p0), (2, .int p1), (3, .int p2), (4, .int p3), (5, .int p4)]) rfl (by decide) rfl (Nat.le_of_ble_eq_true rfl) fun κ hc hr hq hi hL => ?_
  have hn : ∀ i, i < 6 → i < κ.2.2.2.2.1 := fun i q => hL ▸ q
  unfold f8_feed
  refine v_obj ?_
  refine v_aload_n (i := 0) hc 0 rfl dX8_feed_0 rfl ?_
  refine v_getV hc kX8 2 (by decide) w_380 rfl dX8_feed_1 (gR rfl fun x1 => ?_)
  refine v_cI hc (m_V' (As := []) (b := x1) (rest := []) 0 hc hr (fun l D tys base => ct6_size l D tys base h x1) (fun x hx => ob6_size hx) rfl s6_size w_572 rfl ⟨Nat.le_of_ble_eq_true rfl, Nat.le_of_ble_eq_true rfl⟩ ⟨Nat.le_of_ble_eq_true rfl, Nat.le_of_ble_eq_true rfl⟩ (Nat.le_of_ble_eq_true rfl) dX8_feed_4) fun x4 => ?_
  refine v_bipush (x := (20 : Int32)) hc dX8_feed_7 zb_20 ?_
  refine v_iadd hc dX8_feed_9 ?_
  refine v_sipush (x := (400 : Int32)) hc dX8_feed_10 zs_400 ?_
  refine v_icmp_le hc 18 dX8_feed_13 rfl ?_ ?_
  · refine v_aload_n (i := 0) hc 0 rfl dX8_feed_18 rfl ?_
    refine v_getV hc kX8 2 (by decide) w_380 rfl dX8_feed_19 (gR rfl fun x19 => ?_)
    refine v_iload_n (i := 1) hc 1 rfl dX8_feed_22 rfl ?_
    refine v_cV hc (m_V' (As := [.int p0]) (b := x19) (rest := []) 1 hc hr (fun l D tys base => ct6_addFour l D tys base h x19 p0) (fun x hx => ob6_addFour hx) rfl s6_addFour w_576 rfl ⟨Nat.le_of_ble_eq_true rfl, Nat.le_of_ble_eq_true rfl⟩ ⟨Nat.le_of_ble_eq_true rfl, Nat.le_of_ble_eq_true rfl⟩ (Nat.le_of_ble_eq_true rfl) dX8_feed_23) fun x23 => ?_
    refine v_aload_n (i := 0) hc 0 rfl dX8_feed_26 rfl ?_
    refine v_getV hc kX8 2 (by decide) w_380 rfl dX8_feed_27 (gR rfl fun x27 => ?_)
    refine v_iload_n (i := 2) hc 2 rfl dX8_feed_30 rfl ?_
    refine v_cV hc (m_V' (As := [.int p1]) (b := x27) (rest := []) 1 hc hr (fun l D tys base => ct6_addFour l D tys base x23 x27 p1) (fun x hx => ob6_addFour hx) rfl s6_addFour w_576 rfl ⟨Nat.le_of_ble_eq_true rfl, Nat.le_of_ble_eq_true rfl⟩ ⟨Nat.le_of_ble_eq_true rfl, Nat.le_of_ble_eq_true rfl⟩ (Nat.le_of_ble_eq_true rfl) dX8_feed_31) fun x31 => ?_
    refine v_aload_n (i := 0) hc 0 rfl dX8_feed_34 rfl ?_
    refine v_getV hc kX8 2 (by decide) w_380 rfl dX8_feed_35 (gR rfl fun x35 => ?_)
    refine v_iload_n (i := 3) hc 3 rfl dX8_feed_38 rfl ?_
    refine v_cV hc (m_V' (As := [.int p2]) (b := x35) (rest := []) 1 hc hr (fun l D tys base => ct6_addFour l D tys base x31 x35 p2) (fun x hx => ob6_addFour hx) rfl s6_addFour w_576 rfl ⟨Nat.le_of_ble_eq_true rfl, Nat.le_of_ble_eq_true rfl⟩ ⟨Nat.le_of_ble_eq_true rfl, Nat.le_of_ble_eq_true rfl⟩ (Nat.le_of_ble_eq_true rfl) dX8_feed_39) fun x39 => ?_
    refine v_aload_n (i := 0) hc 0 rfl dX8_feed_42 rfl ?_
    refine v_getV hc kX8 2 (by decide) w_380 rfl dX8_feed_43 (gR rfl fun x43 => ?_)
    refine v_iload (i := 4) hc 4 rfl dX8_feed_46 ?_
    refine v_cV hc (m_V' (As := [.int p3]) (b := x43) (rest := []) 1 hc hr (fun l D tys base => ct6_addFour l D tys base x39 x43 p3) (fun x hx => ob6_addFour hx) rfl s6_addFour w_576 rfl ⟨Nat.le_of_ble_eq_true rfl, Nat.le_of_ble_eq_true rfl⟩ ⟨Nat.le_of_ble_eq_true rfl, Nat.le_of_ble_eq_true rfl⟩ (Nat.le_of_ble_eq_true rfl) dX8_feed_48) fun x48 => ?_
    refine v_aload_n (i := 0) hc 0 rfl dX8_feed_51 rfl ?_
    refine v_getV hc kX8 2 (by decide) w_380 rfl dX8_feed_52 (gR rfl fun x52 => ?_)
    refine v_iload (i := 5) hc 5 rfl dX8_feed_55 ?_
    refine v_cV hc (m_V' (As := [.int p4]) (b := x52) (rest := []) 1 hc hr (fun l D tys base => ct6_addFour l D tys base x48 x52 p4) (fun x hx => ob6_addFour hx) rfl s6_addFour w_576 rfl ⟨Nat.le_of_ble_eq_true rfl, Nat.le_of_ble_eq_true rfl⟩ ⟨Nat.le_of_ble_eq_true rfl, Nat.le_of_ble_eq_true rfl⟩ (Nat.le_of_ble_eq_true rfl) dX8_feed_57) fun x57 => ?_
    refine v_aload_n (i := 0) hc 0 rfl dX8_feed_60 rfl ?_
    refine v_getV hc kX8 2 (by decide) w_380 rfl dX8_feed_61 (gR rfl fun x61 => ?_)
    refine v_cI hc (m_V' (As := []) (b := x61) (rest := []) 0 hc hr (fun l D tys base => ct6_size l D tys base x57 x61) (fun x hx => ob6_size hx) rfl s6_size w_572 rfl ⟨Nat.le_of_ble_eq_true rfl, Nat.le_of_ble_eq_true rfl⟩ ⟨Nat.le_of_ble_eq_true rfl, Nat.le_of_ble_eq_true rfl⟩ (Nat.le_of_ble_eq_true rfl) dX8_feed_64) fun x64 => ?_
    exact v_iret hc hq rfl rfl (Nat.le_of_ble_eq_true rfl) (Nat.le_of_ble_eq_true rfl) rfl dX8_feed_67
  · refine v_iconst (x := (-1 : Int32)) hc dX8_feed_16 zi_m1 ?_
    exact v_iret hc hq rfl rfl (Nat.le_of_ble_eq_true rfl) (Nat.le_of_ble_eq_true rfl) rfl dX8_feed_17
theorem s8_feed : YV yX8_feed RX8 cX8_feed 6 (some .int) 5 := ⟨w_571, w_569, w_570, w_108, rfl, by decide +kernel, by decide +kernel, by decide +kernel⟩
def f8_end (h : AH) (this : Nat) (p0 : Int32) : Option (Int32 × AH) := (hObj 8 h this).bind fun _ => (fR 8 2 h this).bind fun x3 => (f6_size h x3).bind fun x6 => (f8_isFrom h p0 (0 : Int32) x6).bind fun x9 => (if x9 = true then (fR 8 2 h this).bind fun x18 => (f6_cut h x18 p0).bind fun x22 => some (p0, x22) else some ((-1 : Int32), h))
theorem ob8_end {h : AH} {this : Nat} {p0 : Int32} {x : Int32 × AH} (e : f8_end h this p0 = some x) : ∃ fs, hObj 8 h this = some fs := by
  unfold f8_end at e
  obtain ⟨fs, h1, -⟩ := bd e
  exact ⟨fs, h1⟩
set_option maxRecDepth 100000 in
theorem ct8_end (l : Launch) (D : va_G) (tys : Tys) (base : Nat) (h : AH) (this : Nat) (p0 : Int32) : Ct l D tys base yX8_end cX8_end 2 (some .int) 1 22 0 0 [.ref this, .int p0] h (wI) (f8_end h this p0) := by
  refine Ct.intro (own := RX8) (L := [(0, .ref this), (1, .int p0)]) rfl (by decide) rfl (Nat.le_of_ble_eq_true rfl) fun κ hc hr hq hi hL => ?_
  have hn : ∀ i, i < 2 → i < κ.2.2.2.2.1 := fun i q => hL ▸ q
  unfold f8_end
  refine v_obj ?_
  refine v_iload_n (i := 1) hc 1 rfl dX8_end_0 rfl ?_
  refine v_iconst (x := (0 : Int32)) hc dX8_end_1 zi_0 ?_
  refine v_aload_n (i := 0) hc 0 rfl dX8_end_2 rfl ?_
  refine v_getV hc kX8 2 (by decide) w_380 rfl dX8_end_3 (gR rfl fun x3 => ?_)
  refine v_cI hc (m_V' (As := []) (b := x3) (rest := [.int (0 : Int32), .int p0]) 0 hc hr (fun l D tys base => ct6_size l D tys base h x3) (fun x hx => ob6_size hx) rfl s6_size w_572 rfl ⟨Nat.le_of_ble_eq_true rfl, Nat.le_of_ble_eq_true rfl⟩ ⟨Nat.le_of_ble_eq_true rfl, Nat.le_of_ble_eq_true rfl⟩ (Nat.le_of_ble_eq_true rfl) dX8_end_6) fun x6 => ?_
  refine v_cB hc (m_S' (As := [.int p0, .int (0 : Int32), .int x6]) (rest := []) 3 hc hr (fun l D tys base => ct8_isFrom l D tys base h p0 (0 : Int32) x6) s8_isFrom w_413 rfl ⟨Nat.le_of_ble_eq_true rfl, Nat.le_of_ble_eq_true rfl⟩ ⟨Nat.le_of_ble_eq_true rfl, Nat.le_of_ble_eq_true rfl⟩ (Nat.le_of_ble_eq_true rfl) dX8_end_9) fun x9 => ?_
  refine v_ifb_ne hc 17 dX8_end_12 rfl ?_ ?_
  · refine v_aload_n (i := 0) hc 0 rfl dX8_end_17 rfl ?_
    refine v_getV hc kX8 2 (by decide) w_380 rfl dX8_end_18 (gR rfl fun x18 => ?_)
    refine v_iload_n (i := 1) hc 1 rfl dX8_end_21 rfl ?_
    refine v_cV hc (m_V' (As := [.int p0]) (b := x18) (rest := []) 1 hc hr (fun l D tys base => ct6_cut l D tys base h x18 p0) (fun x hx => ob6_cut hx) rfl s6_cut w_584 rfl ⟨Nat.le_of_ble_eq_true rfl, Nat.le_of_ble_eq_true rfl⟩ ⟨Nat.le_of_ble_eq_true rfl, Nat.le_of_ble_eq_true rfl⟩ (Nat.le_of_ble_eq_true rfl) dX8_end_22) fun x22 => ?_
    refine v_iload_n (i := 1) hc 1 rfl dX8_end_25 rfl ?_
    exact v_iret hc hq rfl rfl (Nat.le_of_ble_eq_true rfl) (Nat.le_of_ble_eq_true rfl) rfl dX8_end_26
  · refine v_iconst (x := (-1 : Int32)) hc dX8_end_15 zi_m1 ?_
    exact v_iret hc hq rfl rfl (Nat.le_of_ble_eq_true rfl) (Nat.le_of_ble_eq_true rfl) rfl dX8_end_16
theorem s8_end : YV yX8_end RX8 cX8_end 2 (some .int) 1 := ⟨w_583, w_581, w_582, w_108, rfl, by decide +kernel, by decide +kernel, by decide +kernel⟩
def f8_reader (h : AH) (this : Nat) : Option (Int32 × AH) := (hObj 8 h this).bind fun _ => (fI 8 5 h this).bind fun x1 => (fR 8 4 h this).bind fun x6 => (aN h x6).bind fun x9 => (f8_isFrom h x1 (0 : Int32) (x9 - (1 : Int32))).bind fun x12 => (if x12 = true then (fR 8 3 h this).bind fun x21 => (fR 8 2 h this).bind fun x25 => (fR 8 4 h this).bind fun x29 => (fI 8 5 h this).bind fun x33 => (aQ 5 h x29 x33).bind fun x36 => (f1_parse h x21 x25 x36 none).bind fun x38 => (fR 8 2 x38.2 this).bind fun x43 => (f6_cut x38.2 x43 (0 : Int32)).bind fun x47 => (if x38.1 = 0 then (fI 8 5 x47 this).bind fun x61 => (fS 8 5 x47 this (.int (x61 + (1 : Int32)))).bind fun h66 => (fI 8 5 h66 this).bind fun x70 => some (x70 - (1 : Int32), h66) else some ((-2 : Int32) - x38.1, x47)) else some ((-1 : Int32), h))
theorem ob8_reader {h : AH} {this : Nat} {x : Int32 × AH} (e : f8_reader h this = some x) : ∃ fs, hObj 8 h this = some fs := by
  unfold f8_reader at e
  obtain ⟨fs, h1, -⟩ := bd e
  exact ⟨fs, h1⟩
set_option maxRecDepth 100000 in
theorem ct8_reader (l : Launch) (D : va_G) (tys : Tys) (base : Nat) (h : AH) (this : Nat) : Ct l D tys base yX8_reader cX8_reader 2 (some .int) 8 178 0 0 [.ref this] h (wI) (f8_reader h this) := by
  refine Ct.intro (own := RX8) (L := [(0, .ref this)]) rfl (by decide) rfl (Nat.le_of_ble_eq_true rfl) fun κ hc hr hq hi hL => ?_
  have hn : ∀ i, i < 2 → i < κ.2.2.2.2.1 := fun i q => hL ▸ q
  unfold f8_reader
  refine v_obj ?_
  refine v_aload_n (i := 0) hc 0 rfl dX8_reader_0 rfl ?_
  refine v_getV hc kX8 5 (by decide) w_383 rfl dX8_reader_1 (gI rfl fun x1 => ?_)
  refine v_iconst (x := (0 : Int32)) hc dX8_reader_4 zi_0 ?_
  refine v_aload_n (i := 0) hc 0 rfl dX8_reader_5 rfl ?_
  refine v_getV hc kX8 4 (by decide) w_382 rfl dX8_reader_6 (gR rfl fun x6 => ?_)
  refine v_alen hc dX8_reader_9 fun x9 => ?_
  refine v_iconst (x := (1 : Int32)) hc dX8_reader_10 zi_1 ?_
  refine v_isub hc dX8_reader_11 ?_
  refine v_cB hc (m_S' (As := [.int x1, .int (0 : Int32), .int (x9 - (1 : Int32))]) (rest := []) 3 hc hr (fun l D tys base => ct8_isFrom l D tys base h x1 (0 : Int32) (x9 - (1 : Int32))) s8_isFrom w_413 rfl ⟨Nat.le_of_ble_eq_true rfl, Nat.le_of_ble_eq_true rfl⟩ ⟨Nat.le_of_ble_eq_true rfl, Nat.le_of_ble_eq_true rfl⟩ (Nat.le_of_ble_eq_true rfl) dX8_reader_12) fun x12 => ?_
  refine v_ifb_ne hc 20 dX8_reader_15 rfl ?_ ?_
  · refine v_aload_n (i := 0) hc 0 rfl dX8_reader_20 rfl ?_
    refine v_getV hc kX8 3 (by decide) w_381 rfl dX8_reader_21 (gR rfl fun x21 => ?_)
    refine v_aload_n (i := 0) hc 0 rfl dX8_reader_24 rfl ?_
    refine v_getV hc kX8 2 (by decide) w_380 rfl dX8_reader_25 (gR rfl fun x25 => ?_)
    refine v_aload_n (i := 0) hc 0 rfl dX8_reader_28 rfl ?_
    refine v_getV hc kX8 4 (by decide) w_382 rfl dX8_reader_29 (gR rfl fun x29 => ?_)
    refine v_aload_n (i := 0) hc 0 rfl dX8_reader_32 rfl ?_
    refine v_getV hc kX8 5 (by decide) w_383 rfl dX8_reader_33 (gI rfl fun x33 => ?_)
    refine v_aald 5 rfl hc dX8_reader_36 fun x36 => ?_
    refine v_null hc dX8_reader_37 ?_
    refine v_cwI hc (m_V' (As := [.ref x25, va_rf x36, va_rf none]) (b := x21) (rest := []) 3 hc hr (fun l D tys base => ct1_parse l D tys base h x21 x25 x36 none) (fun x hx => ob1_parse hx) rfl s1_parse w_592 rfl ⟨Nat.le_of_ble_eq_true rfl, Nat.le_of_ble_eq_true rfl⟩ ⟨Nat.le_of_ble_eq_true rfl, Nat.le_of_ble_eq_true rfl⟩ (Nat.le_of_ble_eq_true rfl) dX8_reader_38) fun x38 => ?_
    refine v_istore_n (i := 1) (L' := [(1, .int x38.1), (0, .ref this)]) hc dX8_reader_41 rfl (hn 1 (Nat.le_of_ble_eq_true rfl)) rfl ?_
    refine v_aload_n (i := 0) hc 1 rfl dX8_reader_42 rfl ?_
    refine v_getV hc kX8 2 (by decide) w_380 rfl dX8_reader_43 (gR rfl fun x43 => ?_)
    refine v_iconst (x := (0 : Int32)) hc dX8_reader_46 zi_0 ?_
    refine v_cV hc (m_V' (As := [.int (0 : Int32)]) (b := x43) (rest := []) 1 hc hr (fun l D tys base => ct6_cut l D tys base x38.2 x43 (0 : Int32)) (fun x hx => ob6_cut hx) rfl s6_cut w_584 rfl ⟨Nat.le_of_ble_eq_true rfl, Nat.le_of_ble_eq_true rfl⟩ ⟨Nat.le_of_ble_eq_true rfl, Nat.le_of_ble_eq_true rfl⟩ (Nat.le_of_ble_eq_true rfl) dX8_reader_47) fun x47 => ?_
    refine v_iload_n (i := 1) hc 0 rfl dX8_reader_50 rfl ?_
    refine v_if_eq hc 59 dX8_reader_51 rfl ?_ ?_
    · refine v_aload_n (i := 0) hc 1 rfl dX8_reader_59 rfl ?_
      refine v_dup hc dX8_reader_60 rfl ?_
      refine v_getV hc kX8 5 (by decide) w_383 rfl dX8_reader_61 (gI rfl fun x61 => ?_)
      refine v_iconst (x := (1 : Int32)) hc dX8_reader_64 zi_1 ?_
      refine v_iadd hc dX8_reader_65 ?_
      refine v_put hc kX8 5 (by decide) w_383 rfl rfl dX8_reader_66 ⟨rfl, rfl⟩ fun h66 => ?_
      refine v_aload_n (i := 0) hc 1 rfl dX8_reader_69 rfl ?_
      refine v_getV hc kX8 5 (by decide) w_383 rfl dX8_reader_70 (gI rfl fun x70 => ?_)
      refine v_iconst (x := (1 : Int32)) hc dX8_reader_73 zi_1 ?_
      refine v_isub hc dX8_reader_74 ?_
      exact v_iret hc hq rfl rfl (Nat.le_of_ble_eq_true rfl) (Nat.le_of_ble_eq_true rfl) rfl dX8_reader_75
    · refine v_bipush (x := (-2 : Int32)) hc dX8_reader_54 zb_m2 ?_
      refine v_iload_n (i := 1) hc 0 rfl dX8_reader_56 rfl ?_
      refine v_isub hc dX8_reader_57 ?_
      exact v_iret hc hq rfl rfl (Nat.le_of_ble_eq_true rfl) (Nat.le_of_ble_eq_true rfl) rfl dX8_reader_58
  · refine v_iconst (x := (-1 : Int32)) hc dX8_reader_18 zi_m1 ?_
    exact v_iret hc hq rfl rfl (Nat.le_of_ble_eq_true rfl) (Nat.le_of_ble_eq_true rfl) rfl dX8_reader_19
theorem s8_reader : YV yX8_reader RX8 cX8_reader 2 (some .int) 0 := ⟨w_591, w_589, w_590, w_108, rfl, by decide +kernel, by decide +kernel, by decide +kernel⟩
def f8_maker (h : AH) (this : Nat) : Option (Int32 × AH) := (hObj 8 h this).bind fun _ => (fI 8 7 h this).bind fun x1 => (fR 8 6 h this).bind fun x6 => (aN h x6).bind fun x9 => (f8_isFrom h x1 (0 : Int32) (x9 - (1 : Int32))).bind fun x12 => (if x12 = true then (fR 8 3 h this).bind fun x21 => (fR 8 2 h this).bind fun x25 => (fR 8 6 h this).bind fun x30 => (fI 8 7 h this).bind fun x34 => (aQ 6 h x30 x34).bind fun x37 => (f1_parse h x21 x25 none x37).bind fun x38 => (fR 8 2 x38.2 this).bind fun x43 => (f6_cut x38.2 x43 (0 : Int32)).bind fun x47 => (if x38.1 = 0 then (fI 8 7 x47 this).bind fun x61 => (fS 8 7 x47 this (.int (x61 + (1 : Int32)))).bind fun h66 => (fI 8 7 h66 this).bind fun x70 => some (x70 - (1 : Int32), h66) else some ((-2 : Int32) - x38.1, x47)) else some ((-1 : Int32), h))
theorem ob8_maker {h : AH} {this : Nat} {x : Int32 × AH} (e : f8_maker h this = some x) : ∃ fs, hObj 8 h this = some fs := by
  unfold f8_maker at e
  obtain ⟨fs, h1, -⟩ := bd e
  exact ⟨fs, h1⟩
set_option maxRecDepth 100000 in
theorem ct8_maker (l : Launch) (D : va_G) (tys : Tys) (base : Nat) (h : AH) (this : Nat) : Ct l D tys base yX8_maker cX8_maker 2 (some .int) 8 178 0 0 [.ref this] h (wI) (f8_maker h this) := by
  refine Ct.intro (own := RX8) (L := [(0, .ref this)]) rfl (by decide) rfl (Nat.le_of_ble_eq_true rfl) fun κ hc hr hq hi hL => ?_
  have hn : ∀ i, i < 2 → i < κ.2.2.2.2.1 := fun i q => hL ▸ q
  unfold f8_maker
  refine v_obj ?_
  refine v_aload_n (i := 0) hc 0 rfl dX8_maker_0 rfl ?_
  refine v_getV hc kX8 7 (by decide) w_385 rfl dX8_maker_1 (gI rfl fun x1 => ?_)
  refine v_iconst (x := (0 : Int32)) hc dX8_maker_4 zi_0 ?_
  refine v_aload_n (i := 0) hc 0 rfl dX8_maker_5 rfl ?_
  refine v_getV hc kX8 6 (by decide) w_384 rfl dX8_maker_6 (gR rfl fun x6 => ?_)
  refine v_alen hc dX8_maker_9 fun x9 => ?_
  refine v_iconst (x := (1 : Int32)) hc dX8_maker_10 zi_1 ?_
  refine v_isub hc dX8_maker_11 ?_
  refine v_cB hc (m_S' (As := [.int x1, .int (0 : Int32), .int (x9 - (1 : Int32))]) (rest := []) 3 hc hr (fun l D tys base => ct8_isFrom l D tys base h x1 (0 : Int32) (x9 - (1 : Int32))) s8_isFrom w_413 rfl ⟨Nat.le_of_ble_eq_true rfl, Nat.le_of_ble_eq_true rfl⟩ ⟨Nat.le_of_ble_eq_true rfl, Nat.le_of_ble_eq_true rfl⟩ (Nat.le_of_ble_eq_true rfl) dX8_maker_12) fun x12 => ?_
  refine v_ifb_ne hc 20 dX8_maker_15 rfl ?_ ?_
  · refine v_aload_n (i := 0) hc 0 rfl dX8_maker_20 rfl ?_
    refine v_getV hc kX8 3 (by decide) w_381 rfl dX8_maker_21 (gR rfl fun x21 => ?_)
    refine v_aload_n (i := 0) hc 0 rfl dX8_maker_24 rfl ?_
    refine v_getV hc kX8 2 (by decide) w_380 rfl dX8_maker_25 (gR rfl fun x25 => ?_)
    refine v_null hc dX8_maker_28 ?_
    refine v_aload_n (i := 0) hc 0 rfl dX8_maker_29 rfl ?_
    refine v_getV hc kX8 6 (by decide) w_384 rfl dX8_maker_30 (gR rfl fun x30 => ?_)
    refine v_aload_n (i := 0) hc 0 rfl dX8_maker_33 rfl ?_
    refine v_getV hc kX8 7 (by decide) w_385 rfl dX8_maker_34 (gI rfl fun x34 => ?_)
    refine v_aald 6 rfl hc dX8_maker_37 fun x37 => ?_
    refine v_cwI hc (m_V' (As := [.ref x25, va_rf none, va_rf x37]) (b := x21) (rest := []) 3 hc hr (fun l D tys base => ct1_parse l D tys base h x21 x25 none x37) (fun x hx => ob1_parse hx) rfl s1_parse w_592 rfl ⟨Nat.le_of_ble_eq_true rfl, Nat.le_of_ble_eq_true rfl⟩ ⟨Nat.le_of_ble_eq_true rfl, Nat.le_of_ble_eq_true rfl⟩ (Nat.le_of_ble_eq_true rfl) dX8_maker_38) fun x38 => ?_
    refine v_istore_n (i := 1) (L' := [(1, .int x38.1), (0, .ref this)]) hc dX8_maker_41 rfl (hn 1 (Nat.le_of_ble_eq_true rfl)) rfl ?_
    refine v_aload_n (i := 0) hc 1 rfl dX8_maker_42 rfl ?_
    refine v_getV hc kX8 2 (by decide) w_380 rfl dX8_maker_43 (gR rfl fun x43 => ?_)
    refine v_iconst (x := (0 : Int32)) hc dX8_maker_46 zi_0 ?_
    refine v_cV hc (m_V' (As := [.int (0 : Int32)]) (b := x43) (rest := []) 1 hc hr (fun l D tys base => ct6_cut l D tys base x38.2 x43 (0 : Int32)) (fun x hx => ob6_cut hx) rfl s6_cut w_584 rfl ⟨Nat.le_of_ble_eq_true rfl, Nat.le_of_ble_eq_true rfl⟩ ⟨Nat.le_of_ble_eq_true rfl, Nat.le_of_ble_eq_true rfl⟩ (Nat.le_of_ble_eq_true rfl) dX8_maker_47) fun x47 => ?_
    refine v_iload_n (i := 1) hc 0 rfl dX8_maker_50 rfl ?_
    refine v_if_eq hc 59 dX8_maker_51 rfl ?_ ?_
    · refine v_aload_n (i := 0) hc 1 rfl dX8_maker_59 rfl ?_
      refine v_dup hc dX8_maker_60 rfl ?_
      refine v_getV hc kX8 7 (by decide) w_385 rfl dX8_maker_61 (gI rfl fun x61 => ?_)
      refine v_iconst (x := (1 : Int32)) hc dX8_maker_64 zi_1 ?_
      refine v_iadd hc dX8_maker_65 ?_
      refine v_put hc kX8 7 (by decide) w_385 rfl rfl dX8_maker_66 ⟨rfl, rfl⟩ fun h66 => ?_
      refine v_aload_n (i := 0) hc 1 rfl dX8_maker_69 rfl ?_
      refine v_getV hc kX8 7 (by decide) w_385 rfl dX8_maker_70 (gI rfl fun x70 => ?_)
      refine v_iconst (x := (1 : Int32)) hc dX8_maker_73 zi_1 ?_
      refine v_isub hc dX8_maker_74 ?_
      exact v_iret hc hq rfl rfl (Nat.le_of_ble_eq_true rfl) (Nat.le_of_ble_eq_true rfl) rfl dX8_maker_75
    · refine v_bipush (x := (-2 : Int32)) hc dX8_maker_54 zb_m2 ?_
      refine v_iload_n (i := 1) hc 0 rfl dX8_maker_56 rfl ?_
      refine v_isub hc dX8_maker_57 ?_
      exact v_iret hc hq rfl rfl (Nat.le_of_ble_eq_true rfl) (Nat.le_of_ble_eq_true rfl) rfl dX8_maker_58
  · refine v_iconst (x := (-1 : Int32)) hc dX8_maker_18 zi_m1 ?_
    exact v_iret hc hq rfl rfl (Nat.le_of_ble_eq_true rfl) (Nat.le_of_ble_eq_true rfl) rfl dX8_maker_19
theorem s8_maker : YV yX8_maker RX8 cX8_maker 2 (some .int) 0 := ⟨w_783, w_781, w_782, w_108, rfl, by decide +kernel, by decide +kernel, by decide +kernel⟩
def f8_readerAt (h : AH) (this : Nat) (p0 : Int32) : Option (Option Nat) := (hObj 8 h this).bind fun _ => (fI 8 5 h this).bind fun x3 => (fR 8 4 h this).bind fun x7 => (aN h x7).bind fun x10 => (some (if x10 < x3 then x10 else x3)).bind fun z11 => (f8_isFrom h p0 (0 : Int32) (z11 - (1 : Int32))).bind fun x16 => (if x16 = true then (fR 8 4 h this).bind fun x23 => (aQ 5 h x23 p0).bind fun x27 => some x27 else some none)
theorem ob8_readerAt {h : AH} {this : Nat} {p0 : Int32} {x : Option Nat} (e : f8_readerAt h this p0 = some x) : ∃ fs, hObj 8 h this = some fs := by
  unfold f8_readerAt at e
  obtain ⟨fs, h1, -⟩ := bd e
  exact ⟨fs, h1⟩
set_option maxRecDepth 100000 in
theorem ct8_readerAt (l : Launch) (D : va_G) (tys : Tys) (base : Nat) (h : AH) (this : Nat) (p0 : Int32) : Ct l D tys base yX8_readerAt cX8_readerAt 2 (some (.object RX3)) 1 40 0 0 [.ref this, .int p0] h (rQ h) (f8_readerAt h this p0) := by
  refine Ct.intro (own := RX8) (L := [(0, .ref this), (1, .int p0)]) rfl (by decide) rfl (Nat.le_of_ble_eq_true rfl) fun κ hc hr hq hi hL => ?_
  have hn : ∀ i, i < 2 → i < κ.2.2.2.2.1 := fun i q => hL ▸ q
  unfold f8_readerAt
  refine v_obj ?_
  refine v_iload_n (i := 1) hc 1 rfl dX8_readerAt_0 rfl ?_
  refine v_iconst (x := (0 : Int32)) hc dX8_readerAt_1 zi_0 ?_
  refine v_aload_n (i := 0) hc 0 rfl dX8_readerAt_2 rfl ?_
  refine v_getV hc kX8 5 (by decide) w_383 rfl dX8_readerAt_3 (gI rfl fun x3 => ?_)
  refine v_aload_n (i := 0) hc 0 rfl dX8_readerAt_6 rfl ?_
  refine v_getV hc kX8 4 (by decide) w_382 rfl dX8_readerAt_7 (gR rfl fun x7 => ?_)
  refine v_alen hc dX8_readerAt_10 fun x10 => ?_
  refine v_mmin hc hr w_792 w_454 w_111 w_455 (Nat.le_of_ble_eq_true rfl) (Nat.le_of_ble_eq_true rfl) (Nat.le_of_ble_eq_true rfl) (Nat.le_of_ble_eq_true rfl) dX8_readerAt_11 (v_nmI fun z11 => ?_)
  refine v_iconst (x := (1 : Int32)) hc dX8_readerAt_14 zi_1 ?_
  refine v_isub hc dX8_readerAt_15 ?_
  refine v_cB hc (m_S' (As := [.int p0, .int (0 : Int32), .int (z11 - (1 : Int32))]) (rest := []) 3 hc hr (fun l D tys base => ct8_isFrom l D tys base h p0 (0 : Int32) (z11 - (1 : Int32))) s8_isFrom w_413 rfl ⟨Nat.le_of_ble_eq_true rfl, Nat.le_of_ble_eq_true rfl⟩ ⟨Nat.le_of_ble_eq_true rfl, Nat.le_of_ble_eq_true rfl⟩ (Nat.le_of_ble_eq_true rfl) dX8_readerAt_16) fun x16 => ?_
  refine v_ifb_eq hc 31 dX8_readerAt_19 rfl ?_ ?_
  · refine v_null hc dX8_readerAt_31 ?_
    exact v_aret (v := none) hc hq (Nat.le_of_ble_eq_true rfl) (Nat.le_of_ble_eq_true rfl) rfl dX8_readerAt_32
  · refine v_aload_n (i := 0) hc 0 rfl dX8_readerAt_22 rfl ?_
    refine v_getV hc kX8 4 (by decide) w_382 rfl dX8_readerAt_23 (gR rfl fun x23 => ?_)
    refine v_iload_n (i := 1) hc 1 rfl dX8_readerAt_26 rfl ?_
    refine v_aald 5 rfl hc dX8_readerAt_27 fun x27 => ?_
    refine v_goto hc 32 dX8_readerAt_28 rfl ?_
    exact v_aret (v := x27) hc hq (Nat.le_of_ble_eq_true rfl) (Nat.le_of_ble_eq_true rfl) rfl dX8_readerAt_32
theorem s8_readerAt : YV yX8_readerAt RX8 cX8_readerAt 2 (some (.object RX3)) 1 := ⟨w_791, w_790, w_27, w_108, rfl, by decide +kernel, by decide +kernel, by decide +kernel⟩
def f8_chanceOf (h : AH) (this : Nat) (p0 : Nat) (p1 : Int32) (p2 : Int32) : Option (Int32 × AH) := (hObj 8 h this).bind fun _ => (fR 8 0 h this).bind fun x1 => (fR 8 8 h this).bind fun x5 => (f7_fillWords h x1 x5 p1 p2).bind fun x10 => (fR 8 8 x10 this).bind fun x15 => (f3_chanceBy x10 p0 x15).bind fun x18 => some (x18.1, x18.2)
theorem ob8_chanceOf {h : AH} {this : Nat} {p0 : Nat} {p1 : Int32} {p2 : Int32} {x : Int32 × AH} (e : f8_chanceOf h this p0 p1 p2 = some x) : ∃ fs, hObj 8 h this = some fs := by
  unfold f8_chanceOf at e
  obtain ⟨fs, h1, -⟩ := bd e
  exact ⟨fs, h1⟩
set_option maxRecDepth 100000 in
theorem ct8_chanceOf (l : Launch) (D : va_G) (tys : Tys) (base : Nat) (h : AH) (this : Nat) (p0 : Nat) (p1 : Int32) (p2 : Int32) : Ct l D tys base yX8_chanceOf cX8_chanceOf 4 (some .int) 6 159 0 0 [.ref this, .ref p0, .int p1, .int p2] h (wI) (f8_chanceOf h this p0 p1 p2) := by
  refine Ct.intro (own := RX8) (L := [(0, .ref this), (1, .ref p0), (2, .int p1), (3, .int p2)]) rfl (by decide) rfl (Nat.le_of_ble_eq_true rfl) fun κ hc hr hq hi hL => ?_
  have hn : ∀ i, i < 4 → i < κ.2.2.2.2.1 := fun i q => hL ▸ q
  unfold f8_chanceOf
  refine v_obj ?_
  refine v_aload_n (i := 0) hc 0 rfl dX8_chanceOf_0 rfl ?_
  refine v_getV hc kX8 0 (by decide) w_378 rfl dX8_chanceOf_1 (gR rfl fun x1 => ?_)
  refine v_aload_n (i := 0) hc 0 rfl dX8_chanceOf_4 rfl ?_
  refine v_getV hc kX8 8 (by decide) w_386 rfl dX8_chanceOf_5 (gR rfl fun x5 => ?_)
  refine v_iload_n (i := 2) hc 2 rfl dX8_chanceOf_8 rfl ?_
  refine v_iload_n (i := 3) hc 3 rfl dX8_chanceOf_9 rfl ?_
  refine v_cV hc (m_V' (As := [.ref x5, .int p1, .int p2]) (b := x1) (rest := []) 3 hc hr (fun l D tys base => ct7_fillWords l D tys base h x1 x5 p1 p2) (fun x hx => ob7_fillWords hx) rfl s7_fillWords w_802 rfl ⟨Nat.le_of_ble_eq_true rfl, Nat.le_of_ble_eq_true rfl⟩ ⟨Nat.le_of_ble_eq_true rfl, Nat.le_of_ble_eq_true rfl⟩ (Nat.le_of_ble_eq_true rfl) dX8_chanceOf_10) fun x10 => ?_
  refine v_aload_n (i := 1) hc 1 rfl dX8_chanceOf_13 rfl ?_
  refine v_aload_n (i := 0) hc 0 rfl dX8_chanceOf_14 rfl ?_
  refine v_getV hc kX8 8 (by decide) w_386 rfl dX8_chanceOf_15 (gR rfl fun x15 => ?_)
  refine v_cwI hc (m_V' (As := [.ref x15]) (b := p0) (rest := []) 1 hc hr (fun l D tys base => ct3_chanceBy l D tys base x10 p0 x15) (fun x hx => ob3_chanceBy hx) rfl s3_chanceBy w_830 rfl ⟨Nat.le_of_ble_eq_true rfl, Nat.le_of_ble_eq_true rfl⟩ ⟨Nat.le_of_ble_eq_true rfl, Nat.le_of_ble_eq_true rfl⟩ (Nat.le_of_ble_eq_true rfl) dX8_chanceOf_18) fun x18 => ?_
  exact v_iret hc hq rfl rfl (Nat.le_of_ble_eq_true rfl) (Nat.le_of_ble_eq_true rfl) rfl dX8_chanceOf_21
theorem s8_chanceOf : YV yX8_chanceOf RX8 cX8_chanceOf 4 (some .int) 3 := ⟨w_801, w_800, w_28, w_108, rfl, by decide +kernel, by decide +kernel, by decide +kernel⟩
def f8_chance (h : AH) (this : Nat) (p0 : Int32) (p1 : Int32) (p2 : Int32) : Option (Int32 × AH) := (hObj 8 h this).bind fun _ => (f8_readerAt h this p0).bind fun x2 => (oM x2 (some ((-1 : Int32), h)) fun a9 => (fR 8 0 h this).bind fun x13 => (f7_areUnlike h x13 p1 p2).bind fun x18 => (if x18 = true then (f8_chanceOf h this a9 p1 p2).bind fun x31 => some (x31.1, x31.2) else some ((-1 : Int32), h)))
theorem ob8_chance {h : AH} {this : Nat} {p0 : Int32} {p1 : Int32} {p2 : Int32} {x : Int32 × AH} (e : f8_chance h this p0 p1 p2 = some x) : ∃ fs, hObj 8 h this = some fs := by
  unfold f8_chance at e
  obtain ⟨fs, h1, -⟩ := bd e
  exact ⟨fs, h1⟩
set_option maxRecDepth 100000 in
theorem ct8_chance (l : Launch) (D : va_G) (tys : Tys) (base : Nat) (h : AH) (this : Nat) (p0 : Int32) (p1 : Int32) (p2 : Int32) : Ct l D tys base yX8_chance cX8_chance 5 (some .int) 7 182 0 0 [.ref this, .int p0, .int p1, .int p2] h (wI) (f8_chance h this p0 p1 p2) := by
  refine Ct.intro (own := RX8) (L := [(0, .ref this), (1, .int p0), (2, .int p1), (3, .int p2)]) rfl (by decide) rfl (Nat.le_of_ble_eq_true rfl) fun κ hc hr hq hi hL => ?_
  have hn : ∀ i, i < 5 → i < κ.2.2.2.2.1 := fun i q => hL ▸ q
  unfold f8_chance
  refine v_obj ?_
  refine v_aload_n (i := 0) hc 0 rfl dX8_chance_0 rfl ?_
  refine v_iload_n (i := 1) hc 1 rfl dX8_chance_1 rfl ?_
  refine v_cQ hc (m_V' (As := [.int p0]) (b := this) (rest := []) 1 hc hr (fun l D tys base => ct8_readerAt l D tys base h this p0) (fun x hx => ob8_readerAt hx) rfl s8_readerAt w_788 rfl ⟨Nat.le_of_ble_eq_true rfl, Nat.le_of_ble_eq_true rfl⟩ ⟨Nat.le_of_ble_eq_true rfl, Nat.le_of_ble_eq_true rfl⟩ (Nat.le_of_ble_eq_true rfl) dX8_chance_2) fun x2 => ?_
  refine v_astoreq (i := 4) (x := x2) (L' := [(4, va_rf x2), (0, .ref this), (1, .int p0), (2, .int p1), (3, .int p2)]) hc dX8_chance_5 (hn 4 (Nat.le_of_ble_eq_true rfl)) rfl ?_
  refine v_aloadq (i := 4) (x := x2) hc 0 rfl dX8_chance_7 ?_
  refine v_ifnull hc 24 dX8_chance_9 rfl ?_ ?_
  · intro hx9
    subst hx9
    refine v_iconst (x := (-1 : Int32)) hc dX8_chance_24 zi_m1 ?_
    exact v_iret hc hq rfl rfl (Nat.le_of_ble_eq_true rfl) (Nat.le_of_ble_eq_true rfl) rfl dX8_chance_25
  · intro a9 hx9
    subst hx9
    refine v_aload_n (i := 0) hc 1 rfl dX8_chance_12 rfl ?_
    refine v_getV hc kX8 0 (by decide) w_378 rfl dX8_chance_13 (gR rfl fun x13 => ?_)
    refine v_iload_n (i := 2) hc 3 rfl dX8_chance_16 rfl ?_
    refine v_iload_n (i := 3) hc 4 rfl dX8_chance_17 rfl ?_
    refine v_cB hc (m_V' (As := [.int p1, .int p2]) (b := x13) (rest := []) 2 hc hr (fun l D tys base => ct7_areUnlike l D tys base h x13 p1 p2) (fun x hx => ob7_areUnlike hx) rfl s7_areUnlike w_793 rfl ⟨Nat.le_of_ble_eq_true rfl, Nat.le_of_ble_eq_true rfl⟩ ⟨Nat.le_of_ble_eq_true rfl, Nat.le_of_ble_eq_true rfl⟩ (Nat.le_of_ble_eq_true rfl) dX8_chance_18) fun x18 => ?_
    refine v_ifb_ne hc 26 dX8_chance_21 rfl ?_ ?_
    · refine v_aload_n (i := 0) hc 1 rfl dX8_chance_26 rfl ?_
      refine v_aload (i := 4) hc 0 rfl dX8_chance_27 ?_
      refine v_iload_n (i := 2) hc 3 rfl dX8_chance_29 rfl ?_
      refine v_iload_n (i := 3) hc 4 rfl dX8_chance_30 rfl ?_
      refine v_cwI hc (m_V' (As := [.ref a9, .int p1, .int p2]) (b := this) (rest := []) 3 hc hr (fun l D tys base => ct8_chanceOf l D tys base h this a9 p1 p2) (fun x hx => ob8_chanceOf hx) rfl s8_chanceOf w_798 rfl ⟨Nat.le_of_ble_eq_true rfl, Nat.le_of_ble_eq_true rfl⟩ ⟨Nat.le_of_ble_eq_true rfl, Nat.le_of_ble_eq_true rfl⟩ (Nat.le_of_ble_eq_true rfl) dX8_chance_31) fun x31 => ?_
      exact v_iret hc hq rfl rfl (Nat.le_of_ble_eq_true rfl) (Nat.le_of_ble_eq_true rfl) rfl dX8_chance_34
    · refine v_iconst (x := (-1 : Int32)) hc dX8_chance_24 zi_m1 ?_
      exact v_iret hc hq rfl rfl (Nat.le_of_ble_eq_true rfl) (Nat.le_of_ble_eq_true rfl) rfl dX8_chance_25
theorem s8_chance : YV yX8_chance RX8 cX8_chance 5 (some .int) 3 := ⟨w_787, w_785, w_786, w_108, rfl, by decide +kernel, by decide +kernel, by decide +kernel⟩
def f8_tells (h : AH) (this : Nat) (p0 : Int32) (p1 : Int32) (p2 : Int32) (p3 : Int32) : Option (Int32 × AH) := (hObj 8 h this).bind fun _ => (f8_readerAt h this p0).bind fun x2 => (oM x2 (some ((-2000 : Int32), h)) fun a9 => (fR 8 0 h this).bind fun x13 => (f7_areUnlike h x13 p1 p2).bind fun x18 => (if x18 = true then (fR 8 0 h this).bind fun x29 => (f7_areUnlike h x29 p1 p3).bind fun x35 => (if x35 = true then (fR 8 0 h this).bind fun x42 => (f7_areUnlike h x42 p2 p3).bind fun x48 => (if x48 = true then (f8_chanceOf h this a9 p1 p3).bind fun x64 => (f8_chanceOf x64.2 this a9 p2 p3).bind fun x73 => some (x64.1 - x73.1, x73.2) else some ((-2000 : Int32), h)) else some ((-2000 : Int32), h)) else some ((-2000 : Int32), h)))
theorem ob8_tells {h : AH} {this : Nat} {p0 : Int32} {p1 : Int32} {p2 : Int32} {p3 : Int32} {x : Int32 × AH} (e : f8_tells h this p0 p1 p2 p3 = some x) : ∃ fs, hObj 8 h this = some fs := by
  unfold f8_tells at e
  obtain ⟨fs, h1, -⟩ := bd e
  exact ⟨fs, h1⟩
set_option maxRecDepth 100000 in
theorem ct8_tells (l : Launch) (D : va_G) (tys : Tys) (base : Nat) (h : AH) (this : Nat) (p0 : Int32) (p1 : Int32) (p2 : Int32) (p3 : Int32) : Ct l D tys base yX8_tells cX8_tells 6 (some .int) 7 182 0 0 [.ref this, .int p0, .int p1, .int p2, .int p3] h (wI) (f8_tells h this p0 p1 p2 p3) := by
  refine Ct.intro (own := RX8) (L := [(0, .ref this), (1, .int p0), (2, .int p1), (3, .int p2), (4, .int p3)]) rfl (by decide) rfl (Nat.le_of_ble_eq_true rfl) fun κ hc hr hq hi hL => ?_
  have hn : ∀ i, i < 6 → i < κ.2.2.2.2.1 := fun i q => hL ▸ q
  unfold f8_tells
  refine v_obj ?_
  refine v_aload_n (i := 0) hc 0 rfl dX8_tells_0 rfl ?_
  refine v_iload_n (i := 1) hc 1 rfl dX8_tells_1 rfl ?_
  refine v_cQ hc (m_V' (As := [.int p0]) (b := this) (rest := []) 1 hc hr (fun l D tys base => ct8_readerAt l D tys base h this p0) (fun x hx => ob8_readerAt hx) rfl s8_readerAt w_788 rfl ⟨Nat.le_of_ble_eq_true rfl, Nat.le_of_ble_eq_true rfl⟩ ⟨Nat.le_of_ble_eq_true rfl, Nat.le_of_ble_eq_true rfl⟩ (Nat.le_of_ble_eq_true rfl) dX8_tells_2) fun x2 => ?_
  refine v_astoreq (i := 5) (x := x2) (L' := [(5, va_rf x2), (0, .ref this), (1, .int p0), (2, .int p1), (3, .int p2), (4, .int p3)]) hc dX8_tells_5 (hn 5 (Nat.le_of_ble_eq_true rfl)) rfl ?_
  refine v_aloadq (i := 5) (x := x2) hc 0 rfl dX8_tells_7 ?_
  refine v_ifnull hc 24 dX8_tells_9 rfl ?_ ?_
  · intro hx9
    subst hx9
    refine v_sipush (x := (-2000 : Int32)) hc dX8_tells_24 zs_m2000 ?_
    exact v_iret hc hq rfl rfl (Nat.le_of_ble_eq_true rfl) (Nat.le_of_ble_eq_true rfl) rfl dX8_tells_27
  · intro a9 hx9
    subst hx9
    refine v_aload_n (i := 0) hc 1 rfl dX8_tells_12 rfl ?_
    refine v_getV hc kX8 0 (by decide) w_378 rfl dX8_tells_13 (gR rfl fun x13 => ?_)
    refine v_iload_n (i := 2) hc 3 rfl dX8_tells_16 rfl ?_
    refine v_iload_n (i := 3) hc 4 rfl dX8_tells_17 rfl ?_
    refine v_cB hc (m_V' (As := [.int p1, .int p2]) (b := x13) (rest := []) 2 hc hr (fun l D tys base => ct7_areUnlike l D tys base h x13 p1 p2) (fun x hx => ob7_areUnlike hx) rfl s7_areUnlike w_793 rfl ⟨Nat.le_of_ble_eq_true rfl, Nat.le_of_ble_eq_true rfl⟩ ⟨Nat.le_of_ble_eq_true rfl, Nat.le_of_ble_eq_true rfl⟩ (Nat.le_of_ble_eq_true rfl) dX8_tells_18) fun x18 => ?_
    refine v_ifb_ne hc 28 dX8_tells_21 rfl ?_ ?_
    · refine v_aload_n (i := 0) hc 1 rfl dX8_tells_28 rfl ?_
      refine v_getV hc kX8 0 (by decide) w_378 rfl dX8_tells_29 (gR rfl fun x29 => ?_)
      refine v_iload_n (i := 2) hc 3 rfl dX8_tells_32 rfl ?_
      refine v_iload (i := 4) hc 5 rfl dX8_tells_33 ?_
      refine v_cB hc (m_V' (As := [.int p1, .int p3]) (b := x29) (rest := []) 2 hc hr (fun l D tys base => ct7_areUnlike l D tys base h x29 p1 p3) (fun x hx => ob7_areUnlike hx) rfl s7_areUnlike w_793 rfl ⟨Nat.le_of_ble_eq_true rfl, Nat.le_of_ble_eq_true rfl⟩ ⟨Nat.le_of_ble_eq_true rfl, Nat.le_of_ble_eq_true rfl⟩ (Nat.le_of_ble_eq_true rfl) dX8_tells_35) fun x35 => ?_
      refine v_ifb_eq hc 54 dX8_tells_38 rfl ?_ ?_
      · refine v_sipush (x := (-2000 : Int32)) hc dX8_tells_54 zs_m2000 ?_
        exact v_iret hc hq rfl rfl (Nat.le_of_ble_eq_true rfl) (Nat.le_of_ble_eq_true rfl) rfl dX8_tells_57
      · refine v_aload_n (i := 0) hc 1 rfl dX8_tells_41 rfl ?_
        refine v_getV hc kX8 0 (by decide) w_378 rfl dX8_tells_42 (gR rfl fun x42 => ?_)
        refine v_iload_n (i := 3) hc 4 rfl dX8_tells_45 rfl ?_
        refine v_iload (i := 4) hc 5 rfl dX8_tells_46 ?_
        refine v_cB hc (m_V' (As := [.int p2, .int p3]) (b := x42) (rest := []) 2 hc hr (fun l D tys base => ct7_areUnlike l D tys base h x42 p2 p3) (fun x hx => ob7_areUnlike hx) rfl s7_areUnlike w_793 rfl ⟨Nat.le_of_ble_eq_true rfl, Nat.le_of_ble_eq_true rfl⟩ ⟨Nat.le_of_ble_eq_true rfl, Nat.le_of_ble_eq_true rfl⟩ (Nat.le_of_ble_eq_true rfl) dX8_tells_48) fun x48 => ?_
        refine v_ifb_ne hc 58 dX8_tells_51 rfl ?_ ?_
        · refine v_aload_n (i := 0) hc 1 rfl dX8_tells_58 rfl ?_
          refine v_aload (i := 5) hc 0 rfl dX8_tells_59 ?_
          refine v_iload_n (i := 2) hc 3 rfl dX8_tells_61 rfl ?_
          refine v_iload (i := 4) hc 5 rfl dX8_tells_62 ?_
          refine v_cwI hc (m_V' (As := [.ref a9, .int p1, .int p3]) (b := this) (rest := []) 3 hc hr (fun l D tys base => ct8_chanceOf l D tys base h this a9 p1 p3) (fun x hx => ob8_chanceOf hx) rfl s8_chanceOf w_798 rfl ⟨Nat.le_of_ble_eq_true rfl, Nat.le_of_ble_eq_true rfl⟩ ⟨Nat.le_of_ble_eq_true rfl, Nat.le_of_ble_eq_true rfl⟩ (Nat.le_of_ble_eq_true rfl) dX8_tells_64) fun x64 => ?_
          refine v_aload_n (i := 0) hc 1 rfl dX8_tells_67 rfl ?_
          refine v_aload (i := 5) hc 0 rfl dX8_tells_68 ?_
          refine v_iload_n (i := 3) hc 4 rfl dX8_tells_70 rfl ?_
          refine v_iload (i := 4) hc 5 rfl dX8_tells_71 ?_
          refine v_cwI hc (m_V' (As := [.ref a9, .int p2, .int p3]) (b := this) (rest := [.int x64.1]) 3 hc hr (fun l D tys base => ct8_chanceOf l D tys base x64.2 this a9 p2 p3) (fun x hx => ob8_chanceOf hx) rfl s8_chanceOf w_798 rfl ⟨Nat.le_of_ble_eq_true rfl, Nat.le_of_ble_eq_true rfl⟩ ⟨Nat.le_of_ble_eq_true rfl, Nat.le_of_ble_eq_true rfl⟩ (Nat.le_of_ble_eq_true rfl) dX8_tells_73) fun x73 => ?_
          refine v_isub hc dX8_tells_76 ?_
          exact v_iret hc hq rfl rfl (Nat.le_of_ble_eq_true rfl) (Nat.le_of_ble_eq_true rfl) rfl dX8_tells_77
        · refine v_sipush (x := (-2000 : Int32)) hc dX8_tells_54 zs_m2000 ?_
          exact v_iret hc hq rfl rfl (Nat.le_of_ble_eq_true rfl) (Nat.le_of_ble_eq_true rfl) rfl dX8_tells_57
    · refine v_sipush (x := (-2000 : Int32)) hc dX8_tells_24 zs_m2000 ?_
      exact v_iret hc hq rfl rfl (Nat.le_of_ble_eq_true rfl) (Nat.le_of_ble_eq_true rfl) rfl dX8_tells_27
theorem s8_tells : YV yX8_tells RX8 cX8_tells 6 (some .int) 4 := ⟨w_865, w_863, w_864, w_108, rfl, by decide +kernel, by decide +kernel, by decide +kernel⟩
def f8_look_81 (h : AH) (v0 : Nat) (v2 : Int32) (v3 : Int32) (v5 : Option Nat) (s0 : Bool) : Option (Int32 × AH) := (fR 8 0 h v0).bind fun x84 => (fR 7 6 h x84).bind fun x87 => (f5_addRow h x87).bind fun x90 => (fR 8 0 x90.2 v0).bind fun x96 => (fR 7 6 x90.2 x96).bind fun x99 => (f5_put x90.2 x99 x90.1 (0 : Int32) v2).bind fun x106 => (fR 8 0 x106 v0).bind fun x110 => (fR 7 6 x106 x110).bind fun x113 => (f5_put x106 x113 x90.1 (1 : Int32) v3).bind fun x120 => (fR 8 0 x120 v0).bind fun x124 => (fR 7 6 x120 x124).bind fun x127 => (fR 8 0 x120 v0).bind fun x134 => (fI 7 0 x120 x134).bind fun x137 => (v5).bind fun b142 => (fI 3 0 x120 b142).bind fun x142 => (some (if (519 : Int32) < (x137 + x142) then (519 : Int32) else (x137 + x142))).bind fun z149 => (f5_put x120 x127 x90.1 (2 : Int32) z149).bind fun x152 => (fR 8 0 x152 v0).bind fun x156 => (fR 7 6 x152 x156).bind fun x159 => (f5_put x152 x159 x90.1 (3 : Int32) (bI s0)).bind fun x167 => some ((bI s0), x167)
set_option maxRecDepth 100000 in
theorem vl8_look_81 {κ : Kx} (hc : CX κ RX8 cX8_look) (hr : RX κ ({ frames := 7, cells := 0, slots := 0, locals := 182 } : Room)) (hq : QX κ (some .int) 0 0) (hL : 8 = κ.2.2.2.2.1) (h : AH) (v0 : Nat) (v2 : Int32) (v3 : Int32) (v5 : Option Nat) (s0 : Bool) : V κ (wI) 0 0 81 [(0, .ref v0), (2, .int v2), (3, .int v3), (5, va_rf v5)] [.int (bI s0)] h (f8_look_81 h v0 v2 v3 v5 s0) := by
  have hn : ∀ i, i < 8 → i < κ.2.2.2.2.1 := fun i q => hL ▸ q
  unfold f8_look_81
  refine v_istore (i := 6) (L' := [(6, .int (bI s0)), (0, .ref v0), (2, .int v2), (3, .int v3), (5, va_rf v5)]) hc dX8_look_81 (hn 6 (Nat.le_of_ble_eq_true rfl)) (by cases v5 <;> rfl) ?_
  refine v_aload_n (i := 0) hc 1 rfl dX8_look_83 rfl ?_
  refine v_getV hc kX8 0 (by decide) w_378 rfl dX8_look_84 (gR rfl fun x84 => ?_)
  refine v_getVN hc kX7 6 (by decide) w_196 rfl dX8_look_87 (gR rfl fun x87 => ?_)
  refine v_cwI hc (m_V' (As := []) (b := x87) (rest := []) 0 hc hr (fun l D tys base => ct5_addRow l D tys base h x87) (fun x hx => ob5_addRow hx) rfl s5_addRow w_420 rfl ⟨Nat.le_of_ble_eq_true rfl, Nat.le_of_ble_eq_true rfl⟩ ⟨Nat.le_of_ble_eq_true rfl, Nat.le_of_ble_eq_true rfl⟩ (Nat.le_of_ble_eq_true rfl) dX8_look_90) fun x90 => ?_
  refine v_istore (i := 7) (L' := [(7, .int x90.1), (6, .int (bI s0)), (0, .ref v0), (2, .int v2), (3, .int v3), (5, va_rf v5)]) hc dX8_look_93 (hn 7 (Nat.le_of_ble_eq_true rfl)) rfl ?_
  refine v_aload_n (i := 0) hc 2 rfl dX8_look_95 rfl ?_
  refine v_getV hc kX8 0 (by decide) w_378 rfl dX8_look_96 (gR rfl fun x96 => ?_)
  refine v_getVN hc kX7 6 (by decide) w_196 rfl dX8_look_99 (gR rfl fun x99 => ?_)
  refine v_iload (i := 7) hc 0 rfl dX8_look_102 ?_
  refine v_iconst (x := (0 : Int32)) hc dX8_look_104 zi_0 ?_
  refine v_iload_n (i := 2) hc 3 rfl dX8_look_105 rfl ?_
  refine v_cV hc (m_V' (As := [.int x90.1, .int (0 : Int32), .int v2]) (b := x99) (rest := []) 3 hc hr (fun l D tys base => ct5_put l D tys base x90.2 x99 x90.1 (0 : Int32) v2) (fun x hx => ob5_put hx) rfl s5_put w_440 rfl ⟨Nat.le_of_ble_eq_true rfl, Nat.le_of_ble_eq_true rfl⟩ ⟨Nat.le_of_ble_eq_true rfl, Nat.le_of_ble_eq_true rfl⟩ (Nat.le_of_ble_eq_true rfl) dX8_look_106) fun x106 => ?_
  refine v_aload_n (i := 0) hc 2 rfl dX8_look_109 rfl ?_
  refine v_getV hc kX8 0 (by decide) w_378 rfl dX8_look_110 (gR rfl fun x110 => ?_)
  refine v_getVN hc kX7 6 (by decide) w_196 rfl dX8_look_113 (gR rfl fun x113 => ?_)
  refine v_iload (i := 7) hc 0 rfl dX8_look_116 ?_
  refine v_iconst (x := (1 : Int32)) hc dX8_look_118 zi_1 ?_
  refine v_iload_n (i := 3) hc 4 rfl dX8_look_119 rfl ?_
  refine v_cV hc (m_V' (As := [.int x90.1, .int (1 : Int32), .int v3]) (b := x113) (rest := []) 3 hc hr (fun l D tys base => ct5_put l D tys base x106 x113 x90.1 (1 : Int32) v3) (fun x hx => ob5_put hx) rfl s5_put w_440 rfl ⟨Nat.le_of_ble_eq_true rfl, Nat.le_of_ble_eq_true rfl⟩ ⟨Nat.le_of_ble_eq_true rfl, Nat.le_of_ble_eq_true rfl⟩ (Nat.le_of_ble_eq_true rfl) dX8_look_120) fun x120 => ?_
  refine v_aload_n (i := 0) hc 2 rfl dX8_look_123 rfl ?_
  refine v_getV hc kX8 0 (by decide) w_378 rfl dX8_look_124 (gR rfl fun x124 => ?_)
  refine v_getVN hc kX7 6 (by decide) w_196 rfl dX8_look_127 (gR rfl fun x127 => ?_)
  refine v_iload (i := 7) hc 0 rfl dX8_look_130 ?_
  refine v_iconst (x := (2 : Int32)) hc dX8_look_132 zi_2 ?_
  refine v_aload_n (i := 0) hc 2 rfl dX8_look_133 rfl ?_
  refine v_getV hc kX8 0 (by decide) w_378 rfl dX8_look_134 (gR rfl fun x134 => ?_)
  refine v_getVN hc kX7 0 (by decide) w_180 rfl dX8_look_137 (gI rfl fun x137 => ?_)
  refine v_aloadq (i := 5) (x := v5) hc 5 rfl dX8_look_140 ?_
  refine v_nn fun b142 hb142 => ?_
  subst hb142
  refine v_getVN hc kX3 0 (by decide) w_335 rfl dX8_look_142 (gI rfl fun x142 => ?_)
  refine v_iadd hc dX8_look_145 ?_
  refine v_sipush (x := (519 : Int32)) hc dX8_look_146 zs_519 ?_
  refine v_mmin hc hr w_792 w_454 w_111 w_455 (Nat.le_of_ble_eq_true rfl) (Nat.le_of_ble_eq_true rfl) (Nat.le_of_ble_eq_true rfl) (Nat.le_of_ble_eq_true rfl) dX8_look_149 (v_nmI fun z149 => ?_)
  refine v_cV hc (m_V' (As := [.int x90.1, .int (2 : Int32), .int z149]) (b := x127) (rest := []) 3 hc hr (fun l D tys base => ct5_put l D tys base x120 x127 x90.1 (2 : Int32) z149) (fun x hx => ob5_put hx) rfl s5_put w_440 rfl ⟨Nat.le_of_ble_eq_true rfl, Nat.le_of_ble_eq_true rfl⟩ ⟨Nat.le_of_ble_eq_true rfl, Nat.le_of_ble_eq_true rfl⟩ (Nat.le_of_ble_eq_true rfl) dX8_look_152) fun x152 => ?_
  refine v_aload_n (i := 0) hc 2 rfl dX8_look_155 rfl ?_
  refine v_getV hc kX8 0 (by decide) w_378 rfl dX8_look_156 (gR rfl fun x156 => ?_)
  refine v_getVN hc kX7 6 (by decide) w_196 rfl dX8_look_159 (gR rfl fun x159 => ?_)
  refine v_iload (i := 7) hc 0 rfl dX8_look_162 ?_
  refine v_iconst (x := (3 : Int32)) hc dX8_look_164 zi_3 ?_
  refine v_iload (i := 6) hc 1 rfl dX8_look_165 ?_
  refine v_cV hc (m_V' (As := [.int x90.1, .int (3 : Int32), .int (bI s0)]) (b := x159) (rest := []) 3 hc hr (fun l D tys base => ct5_put l D tys base x152 x159 x90.1 (3 : Int32) (bI s0)) (fun x hx => ob5_put hx) rfl s5_put w_440 rfl ⟨Nat.le_of_ble_eq_true rfl, Nat.le_of_ble_eq_true rfl⟩ ⟨Nat.le_of_ble_eq_true rfl, Nat.le_of_ble_eq_true rfl⟩ (Nat.le_of_ble_eq_true rfl) dX8_look_167) fun x167 => ?_
  refine v_iload (i := 6) hc 1 rfl dX8_look_170 ?_
  exact v_iret hc hq rfl rfl (Nat.le_of_ble_eq_true rfl) (Nat.le_of_ble_eq_true rfl) rfl dX8_look_172
def f8_look (h : AH) (this : Nat) (p0 : Int32) (p1 : Int32) (p2 : Int32) (p3 : Int32) : Option (Int32 × AH) := (hObj 8 h this).bind fun _ => (f8_readerAt h this p0).bind fun x2 => (oM x2 (some ((-1 : Int32), h)) fun a9 => (fR 8 0 h this).bind fun x13 => (f7_areUnlike h x13 p1 p2).bind fun x18 => (if x18 = true then (if 0 ≤ p3 then (fR 8 0 h this).bind fun x32 => (fR 7 6 h x32).bind fun x35 => (f5_isFull h x35).bind fun x38 => (if x38 = true then some ((-1 : Int32), h) else (fR 8 0 h this).bind fun x45 => (f7_isKeptClose h x45 p1).bind fun x49 => (if x49 = true then some ((-1 : Int32), h) else (f8_drawn h p3).bind fun x59 => (f8_perMille h x59).bind fun x62 => (f8_chanceOf h this a9 p1 p2).bind fun x70 => (if x70.1 ≤ x62 then f8_look_81 x70.2 this p1 p2 (some a9) false else f8_look_81 x70.2 this p1 p2 (some a9) true))) else some ((-1 : Int32), h)) else some ((-1 : Int32), h)))
theorem ob8_look {h : AH} {this : Nat} {p0 : Int32} {p1 : Int32} {p2 : Int32} {p3 : Int32} {x : Int32 × AH} (e : f8_look h this p0 p1 p2 p3 = some x) : ∃ fs, hObj 8 h this = some fs := by
  unfold f8_look at e
  obtain ⟨fs, h1, -⟩ := bd e
  exact ⟨fs, h1⟩
set_option maxRecDepth 100000 in
theorem ct8_look (l : Launch) (D : va_G) (tys : Tys) (base : Nat) (h : AH) (this : Nat) (p0 : Int32) (p1 : Int32) (p2 : Int32) (p3 : Int32) : Ct l D tys base yX8_look cX8_look 8 (some .int) 7 182 0 0 [.ref this, .int p0, .int p1, .int p2, .int p3] h (wI) (f8_look h this p0 p1 p2 p3) := by
  refine Ct.intro (own := RX8) (L := [(0, .ref this), (1, .int p0), (2, .int p1), (3, .int p2), (4, .int p3)]) rfl (by decide) rfl (Nat.le_of_ble_eq_true rfl) fun κ hc hr hq hi hL => ?_
  have hn : ∀ i, i < 8 → i < κ.2.2.2.2.1 := fun i q => hL ▸ q
  unfold f8_look
  refine v_obj ?_
  refine v_aload_n (i := 0) hc 0 rfl dX8_look_0 rfl ?_
  refine v_iload_n (i := 1) hc 1 rfl dX8_look_1 rfl ?_
  refine v_cQ hc (m_V' (As := [.int p0]) (b := this) (rest := []) 1 hc hr (fun l D tys base => ct8_readerAt l D tys base h this p0) (fun x hx => ob8_readerAt hx) rfl s8_readerAt w_788 rfl ⟨Nat.le_of_ble_eq_true rfl, Nat.le_of_ble_eq_true rfl⟩ ⟨Nat.le_of_ble_eq_true rfl, Nat.le_of_ble_eq_true rfl⟩ (Nat.le_of_ble_eq_true rfl) dX8_look_2) fun x2 => ?_
  refine v_astoreq (i := 5) (x := x2) (L' := [(5, va_rf x2), (0, .ref this), (1, .int p0), (2, .int p1), (3, .int p2), (4, .int p3)]) hc dX8_look_5 (hn 5 (Nat.le_of_ble_eq_true rfl)) rfl ?_
  refine v_aloadq (i := 5) (x := x2) hc 0 rfl dX8_look_7 ?_
  refine v_ifnull hc 29 dX8_look_9 rfl ?_ ?_
  · intro hx9
    subst hx9
    refine v_iconst (x := (-1 : Int32)) hc dX8_look_29 zi_m1 ?_
    exact v_iret hc hq rfl rfl (Nat.le_of_ble_eq_true rfl) (Nat.le_of_ble_eq_true rfl) rfl dX8_look_30
  · intro a9 hx9
    subst hx9
    refine v_aload_n (i := 0) hc 1 rfl dX8_look_12 rfl ?_
    refine v_getV hc kX8 0 (by decide) w_378 rfl dX8_look_13 (gR rfl fun x13 => ?_)
    refine v_iload_n (i := 2) hc 3 rfl dX8_look_16 rfl ?_
    refine v_iload_n (i := 3) hc 4 rfl dX8_look_17 rfl ?_
    refine v_cB hc (m_V' (As := [.int p1, .int p2]) (b := x13) (rest := []) 2 hc hr (fun l D tys base => ct7_areUnlike l D tys base h x13 p1 p2) (fun x hx => ob7_areUnlike hx) rfl s7_areUnlike w_793 rfl ⟨Nat.le_of_ble_eq_true rfl, Nat.le_of_ble_eq_true rfl⟩ ⟨Nat.le_of_ble_eq_true rfl, Nat.le_of_ble_eq_true rfl⟩ (Nat.le_of_ble_eq_true rfl) dX8_look_18) fun x18 => ?_
    refine v_ifb_eq hc 29 dX8_look_21 rfl ?_ ?_
    · refine v_iconst (x := (-1 : Int32)) hc dX8_look_29 zi_m1 ?_
      exact v_iret hc hq rfl rfl (Nat.le_of_ble_eq_true rfl) (Nat.le_of_ble_eq_true rfl) rfl dX8_look_30
    · refine v_iload (i := 4) hc 5 rfl dX8_look_24 ?_
      refine v_if_ge hc 31 dX8_look_26 rfl ?_ ?_
      · refine v_aload_n (i := 0) hc 1 rfl dX8_look_31 rfl ?_
        refine v_getV hc kX8 0 (by decide) w_378 rfl dX8_look_32 (gR rfl fun x32 => ?_)
        refine v_getVN hc kX7 6 (by decide) w_196 rfl dX8_look_35 (gR rfl fun x35 => ?_)
        refine v_cB hc (m_V' (As := []) (b := x35) (rest := []) 0 hc hr (fun l D tys base => ct5_isFull l D tys base h x35) (fun x hx => ob5_isFull hx) rfl s5_isFull w_870 rfl ⟨Nat.le_of_ble_eq_true rfl, Nat.le_of_ble_eq_true rfl⟩ ⟨Nat.le_of_ble_eq_true rfl, Nat.le_of_ble_eq_true rfl⟩ (Nat.le_of_ble_eq_true rfl) dX8_look_38) fun x38 => ?_
        refine v_ifb_ne hc 55 dX8_look_41 rfl ?_ ?_
        · refine v_iconst (x := (-1 : Int32)) hc dX8_look_55 zi_m1 ?_
          exact v_iret hc hq rfl rfl (Nat.le_of_ble_eq_true rfl) (Nat.le_of_ble_eq_true rfl) rfl dX8_look_56
        · refine v_aload_n (i := 0) hc 1 rfl dX8_look_44 rfl ?_
          refine v_getV hc kX8 0 (by decide) w_378 rfl dX8_look_45 (gR rfl fun x45 => ?_)
          refine v_iload_n (i := 2) hc 3 rfl dX8_look_48 rfl ?_
          refine v_cB hc (m_V' (As := [.int p1]) (b := x45) (rest := []) 1 hc hr (fun l D tys base => ct7_isKeptClose l D tys base h x45 p1) (fun x hx => ob7_isKeptClose hx) rfl s7_isKeptClose w_871 rfl ⟨Nat.le_of_ble_eq_true rfl, Nat.le_of_ble_eq_true rfl⟩ ⟨Nat.le_of_ble_eq_true rfl, Nat.le_of_ble_eq_true rfl⟩ (Nat.le_of_ble_eq_true rfl) dX8_look_49) fun x49 => ?_
          refine v_ifb_eq hc 57 dX8_look_52 rfl ?_ ?_
          · refine v_iload (i := 4) hc 5 rfl dX8_look_57 ?_
            refine v_cI hc (m_S' (As := [.int p3]) (rest := []) 1 hc hr (fun l D tys base => ct8_drawn l D tys base h p3) s8_drawn w_875 rfl ⟨Nat.le_of_ble_eq_true rfl, Nat.le_of_ble_eq_true rfl⟩ ⟨Nat.le_of_ble_eq_true rfl, Nat.le_of_ble_eq_true rfl⟩ (Nat.le_of_ble_eq_true rfl) dX8_look_59) fun x59 => ?_
            refine v_cI hc (m_S' (As := [.int x59]) (rest := []) 1 hc hr (fun l D tys base => ct8_perMille l D tys base h x59) s8_perMille w_881 rfl ⟨Nat.le_of_ble_eq_true rfl, Nat.le_of_ble_eq_true rfl⟩ ⟨Nat.le_of_ble_eq_true rfl, Nat.le_of_ble_eq_true rfl⟩ (Nat.le_of_ble_eq_true rfl) dX8_look_62) fun x62 => ?_
            refine v_aload_n (i := 0) hc 1 rfl dX8_look_65 rfl ?_
            refine v_aload (i := 5) hc 0 rfl dX8_look_66 ?_
            refine v_iload_n (i := 2) hc 3 rfl dX8_look_68 rfl ?_
            refine v_iload_n (i := 3) hc 4 rfl dX8_look_69 rfl ?_
            refine v_cwI hc (m_V' (As := [.ref a9, .int p1, .int p2]) (b := this) (rest := [.int x62]) 3 hc hr (fun l D tys base => ct8_chanceOf l D tys base h this a9 p1 p2) (fun x hx => ob8_chanceOf hx) rfl s8_chanceOf w_798 rfl ⟨Nat.le_of_ble_eq_true rfl, Nat.le_of_ble_eq_true rfl⟩ ⟨Nat.le_of_ble_eq_true rfl, Nat.le_of_ble_eq_true rfl⟩ (Nat.le_of_ble_eq_true rfl) dX8_look_70) fun x70 => ?_
            refine v_icmp_ge hc 80 dX8_look_73 rfl ?_ ?_
            · refine v_iconst (x := (0 : Int32)) hc dX8_look_80 zi_0 ?_
              refine v_sub (L' := [(0, .ref this), (2, .int p1), (3, .int p2), (5, va_rf (some a9))]) [1, 3, 4, 0] rfl ?_
              exact vl8_look_81 hc hr hq hL x70.2 this p1 p2 (some a9) false
            · refine v_iconst (x := (1 : Int32)) hc dX8_look_76 zi_1 ?_
              refine v_goto hc 81 dX8_look_77 rfl ?_
              refine v_sub (L' := [(0, .ref this), (2, .int p1), (3, .int p2), (5, va_rf (some a9))]) [1, 3, 4, 0] rfl ?_
              exact vl8_look_81 hc hr hq hL x70.2 this p1 p2 (some a9) true
          · refine v_iconst (x := (-1 : Int32)) hc dX8_look_55 zi_m1 ?_
            exact v_iret hc hq rfl rfl (Nat.le_of_ble_eq_true rfl) (Nat.le_of_ble_eq_true rfl) rfl dX8_look_56
      · refine v_iconst (x := (-1 : Int32)) hc dX8_look_29 zi_m1 ?_
        exact v_iret hc hq rfl rfl (Nat.le_of_ble_eq_true rfl) (Nat.le_of_ble_eq_true rfl) rfl dX8_look_30
theorem s8_look : YV yX8_look RX8 cX8_look 8 (some .int) 4 := ⟨w_869, w_867, w_868, w_108, rfl, by decide +kernel, by decide +kernel, by decide +kernel⟩
def f8_test (h : AH) (this : Nat) (p0 : Int32) (p1 : Int32) : Option (Int32 × AH) := (hObj 8 h this).bind fun _ => (fR 8 0 h this).bind fun x1 => (fR 7 4 h x1).bind fun x4 => (f5_has h x4 p0).bind fun x8 => (if x8 = true then (f8_isFrom h p1 (0 : Int32) (9 : Int32)).bind fun x18 => (if x18 = true then (fR 8 0 h this).bind fun x27 => (fR 7 7 h x27).bind fun x30 => (f5_isFull h x30).bind fun x33 => (if x33 = true then some ((-1 : Int32), h) else (fR 8 0 h this).bind fun x40 => (f7_isKeptClose h x40 p0).bind fun x44 => (if x44 = true then some ((-1 : Int32), h) else (fR 8 0 h this).bind fun x53 => (fR 7 4 h x53).bind fun x56 => (f5_at h x56 p0 (6 : Int32)).bind fun x62 => (f8_hasBit h x62 p1).bind fun x66 => (if x66 = true then (fR 8 0 h this).bind fun x75 => (fR 7 7 h x75).bind fun x78 => (f5_addRow h x78).bind fun x81 => (fR 8 0 x81.2 this).bind fun x86 => (fR 7 7 x81.2 x86).bind fun x89 => (f5_put x81.2 x89 x81.1 (0 : Int32) p0).bind fun x95 => (fR 8 0 x95 this).bind fun x99 => (fR 7 7 x95 x99).bind fun x102 => (f5_put x95 x102 x81.1 (1 : Int32) p1).bind fun x108 => (fR 8 0 x108 this).bind fun x112 => (fR 7 7 x108 x112).bind fun x115 => (fR 8 0 x108 this).bind fun x121 => (fI 7 0 x108 x121).bind fun x124 => (f5_put x108 x115 x81.1 (2 : Int32) x124).bind fun x127 => (fR 8 0 x127 this).bind fun x131 => (f7_tooYoung x127 x131 p0).bind fun x135 => (f8_hasBit x127 x135 p1).bind fun x139 => (if x139 = true then some ((1 : Int32), x127) else some ((0 : Int32), x127)) else some ((-1 : Int32), h)))) else some ((-1 : Int32), h)) else some ((-1 : Int32), h))
theorem ob8_test {h : AH} {this : Nat} {p0 : Int32} {p1 : Int32} {x : Int32 × AH} (e : f8_test h this p0 p1 = some x) : ∃ fs, hObj 8 h this = some fs := by
  unfold f8_test at e
  obtain ⟨fs, h1, -⟩ := bd e
  exact ⟨fs, h1⟩
set_option maxRecDepth 100000 in
theorem ct8_test (l : Launch) (D : va_G) (tys : Tys) (base : Nat) (h : AH) (this : Nat) (p0 : Int32) (p1 : Int32) : Ct l D tys base yX8_test cX8_test 4 (some .int) 5 132 0 0 [.ref this, .int p0, .int p1] h (wI) (f8_test h this p0 p1) := by
  refine Ct.intro (own := RX8) (L := [(0, .ref this), (1, .int p0), (2, .int p1)]) rfl (by decide) rfl (Nat.le_of_ble_eq_true rfl) fun κ hc hr hq hi hL => ?_
  have hn : ∀ i, i < 4 → i < κ.2.2.2.2.1 := fun i q => hL ▸ q
  unfold f8_test
  refine v_obj ?_
  refine v_aload_n (i := 0) hc 0 rfl dX8_test_0 rfl ?_
  refine v_getV hc kX8 0 (by decide) w_378 rfl dX8_test_1 (gR rfl fun x1 => ?_)
  refine v_getVN hc kX7 4 (by decide) w_191 rfl dX8_test_4 (gR rfl fun x4 => ?_)
  refine v_iload_n (i := 1) hc 1 rfl dX8_test_7 rfl ?_
  refine v_cB hc (m_V' (As := [.int p0]) (b := x4) (rest := []) 1 hc hr (fun l D tys base => ct5_has l D tys base h x4 p0) (fun x hx => ob5_has hx) rfl s5_has w_482 rfl ⟨Nat.le_of_ble_eq_true rfl, Nat.le_of_ble_eq_true rfl⟩ ⟨Nat.le_of_ble_eq_true rfl, Nat.le_of_ble_eq_true rfl⟩ (Nat.le_of_ble_eq_true rfl) dX8_test_8) fun x8 => ?_
  refine v_ifb_eq hc 24 dX8_test_11 rfl ?_ ?_
  · refine v_iconst (x := (-1 : Int32)) hc dX8_test_24 zi_m1 ?_
    exact v_iret hc hq rfl rfl (Nat.le_of_ble_eq_true rfl) (Nat.le_of_ble_eq_true rfl) rfl dX8_test_25
  · refine v_iload_n (i := 2) hc 2 rfl dX8_test_14 rfl ?_
    refine v_iconst (x := (0 : Int32)) hc dX8_test_15 zi_0 ?_
    refine v_bipush (x := (9 : Int32)) hc dX8_test_16 zb_9 ?_
    refine v_cB hc (m_S' (As := [.int p1, .int (0 : Int32), .int (9 : Int32)]) (rest := []) 3 hc hr (fun l D tys base => ct8_isFrom l D tys base h p1 (0 : Int32) (9 : Int32)) s8_isFrom w_413 rfl ⟨Nat.le_of_ble_eq_true rfl, Nat.le_of_ble_eq_true rfl⟩ ⟨Nat.le_of_ble_eq_true rfl, Nat.le_of_ble_eq_true rfl⟩ (Nat.le_of_ble_eq_true rfl) dX8_test_18) fun x18 => ?_
    refine v_ifb_ne hc 26 dX8_test_21 rfl ?_ ?_
    · refine v_aload_n (i := 0) hc 0 rfl dX8_test_26 rfl ?_
      refine v_getV hc kX8 0 (by decide) w_378 rfl dX8_test_27 (gR rfl fun x27 => ?_)
      refine v_getVN hc kX7 7 (by decide) w_198 rfl dX8_test_30 (gR rfl fun x30 => ?_)
      refine v_cB hc (m_V' (As := []) (b := x30) (rest := []) 0 hc hr (fun l D tys base => ct5_isFull l D tys base h x30) (fun x hx => ob5_isFull hx) rfl s5_isFull w_870 rfl ⟨Nat.le_of_ble_eq_true rfl, Nat.le_of_ble_eq_true rfl⟩ ⟨Nat.le_of_ble_eq_true rfl, Nat.le_of_ble_eq_true rfl⟩ (Nat.le_of_ble_eq_true rfl) dX8_test_33) fun x33 => ?_
      refine v_ifb_ne hc 50 dX8_test_36 rfl ?_ ?_
      · refine v_iconst (x := (-1 : Int32)) hc dX8_test_50 zi_m1 ?_
        exact v_iret hc hq rfl rfl (Nat.le_of_ble_eq_true rfl) (Nat.le_of_ble_eq_true rfl) rfl dX8_test_51
      · refine v_aload_n (i := 0) hc 0 rfl dX8_test_39 rfl ?_
        refine v_getV hc kX8 0 (by decide) w_378 rfl dX8_test_40 (gR rfl fun x40 => ?_)
        refine v_iload_n (i := 1) hc 1 rfl dX8_test_43 rfl ?_
        refine v_cB hc (m_V' (As := [.int p0]) (b := x40) (rest := []) 1 hc hr (fun l D tys base => ct7_isKeptClose l D tys base h x40 p0) (fun x hx => ob7_isKeptClose hx) rfl s7_isKeptClose w_871 rfl ⟨Nat.le_of_ble_eq_true rfl, Nat.le_of_ble_eq_true rfl⟩ ⟨Nat.le_of_ble_eq_true rfl, Nat.le_of_ble_eq_true rfl⟩ (Nat.le_of_ble_eq_true rfl) dX8_test_44) fun x44 => ?_
        refine v_ifb_eq hc 52 dX8_test_47 rfl ?_ ?_
        · refine v_aload_n (i := 0) hc 0 rfl dX8_test_52 rfl ?_
          refine v_getV hc kX8 0 (by decide) w_378 rfl dX8_test_53 (gR rfl fun x53 => ?_)
          refine v_getVN hc kX7 4 (by decide) w_191 rfl dX8_test_56 (gR rfl fun x56 => ?_)
          refine v_iload_n (i := 1) hc 1 rfl dX8_test_59 rfl ?_
          refine v_bipush (x := (6 : Int32)) hc dX8_test_60 zb_6 ?_
          refine v_cI hc (m_V' (As := [.int p0, .int (6 : Int32)]) (b := x56) (rest := []) 2 hc hr (fun l D tys base => ct5_at l D tys base h x56 p0 (6 : Int32)) (fun x hx => ob5_at hx) rfl s5_at w_546 rfl ⟨Nat.le_of_ble_eq_true rfl, Nat.le_of_ble_eq_true rfl⟩ ⟨Nat.le_of_ble_eq_true rfl, Nat.le_of_ble_eq_true rfl⟩ (Nat.le_of_ble_eq_true rfl) dX8_test_62) fun x62 => ?_
          refine v_iload_n (i := 2) hc 2 rfl dX8_test_65 rfl ?_
          refine v_cB hc (m_S' (As := [.int x62, .int p1]) (rest := []) 2 hc hr (fun l D tys base => ct8_hasBit l D tys base h x62 p1) s8_hasBit w_888 rfl ⟨Nat.le_of_ble_eq_true rfl, Nat.le_of_ble_eq_true rfl⟩ ⟨Nat.le_of_ble_eq_true rfl, Nat.le_of_ble_eq_true rfl⟩ (Nat.le_of_ble_eq_true rfl) dX8_test_66) fun x66 => ?_
          refine v_ifb_ne hc 74 dX8_test_69 rfl ?_ ?_
          · refine v_aload_n (i := 0) hc 0 rfl dX8_test_74 rfl ?_
            refine v_getV hc kX8 0 (by decide) w_378 rfl dX8_test_75 (gR rfl fun x75 => ?_)
            refine v_getVN hc kX7 7 (by decide) w_198 rfl dX8_test_78 (gR rfl fun x78 => ?_)
            refine v_cwI hc (m_V' (As := []) (b := x78) (rest := []) 0 hc hr (fun l D tys base => ct5_addRow l D tys base h x78) (fun x hx => ob5_addRow hx) rfl s5_addRow w_420 rfl ⟨Nat.le_of_ble_eq_true rfl, Nat.le_of_ble_eq_true rfl⟩ ⟨Nat.le_of_ble_eq_true rfl, Nat.le_of_ble_eq_true rfl⟩ (Nat.le_of_ble_eq_true rfl) dX8_test_81) fun x81 => ?_
            refine v_istore_n (i := 3) (L' := [(3, .int x81.1), (0, .ref this), (1, .int p0), (2, .int p1)]) hc dX8_test_84 rfl (hn 3 (Nat.le_of_ble_eq_true rfl)) rfl ?_
            refine v_aload_n (i := 0) hc 1 rfl dX8_test_85 rfl ?_
            refine v_getV hc kX8 0 (by decide) w_378 rfl dX8_test_86 (gR rfl fun x86 => ?_)
            refine v_getVN hc kX7 7 (by decide) w_198 rfl dX8_test_89 (gR rfl fun x89 => ?_)
            refine v_iload_n (i := 3) hc 0 rfl dX8_test_92 rfl ?_
            refine v_iconst (x := (0 : Int32)) hc dX8_test_93 zi_0 ?_
            refine v_iload_n (i := 1) hc 2 rfl dX8_test_94 rfl ?_
            refine v_cV hc (m_V' (As := [.int x81.1, .int (0 : Int32), .int p0]) (b := x89) (rest := []) 3 hc hr (fun l D tys base => ct5_put l D tys base x81.2 x89 x81.1 (0 : Int32) p0) (fun x hx => ob5_put hx) rfl s5_put w_440 rfl ⟨Nat.le_of_ble_eq_true rfl, Nat.le_of_ble_eq_true rfl⟩ ⟨Nat.le_of_ble_eq_true rfl, Nat.le_of_ble_eq_true rfl⟩ (Nat.le_of_ble_eq_true rfl) dX8_test_95) fun x95 => ?_
            refine v_aload_n (i := 0) hc 1 rfl dX8_test_98 rfl ?_
            refine v_getV hc kX8 0 (by decide) w_378 rfl dX8_test_99 (gR rfl fun x99 => ?_)
            refine v_getVN hc kX7 7 (by decide) w_198 rfl dX8_test_102 (gR rfl fun x102 => ?_)
            refine v_iload_n (i := 3) hc 0 rfl dX8_test_105 rfl ?_
            refine v_iconst (x := (1 : Int32)) hc dX8_test_106 zi_1 ?_
            refine v_iload_n (i := 2) hc 3 rfl dX8_test_107 rfl ?_
            refine v_cV hc (m_V' (As := [.int x81.1, .int (1 : Int32), .int p1]) (b := x102) (rest := []) 3 hc hr (fun l D tys base => ct5_put l D tys base x95 x102 x81.1 (1 : Int32) p1) (fun x hx => ob5_put hx) rfl s5_put w_440 rfl ⟨Nat.le_of_ble_eq_true rfl, Nat.le_of_ble_eq_true rfl⟩ ⟨Nat.le_of_ble_eq_true rfl, Nat.le_of_ble_eq_true rfl⟩ (Nat.le_of_ble_eq_true rfl) dX8_test_108) fun x108 => ?_
            refine v_aload_n (i := 0) hc 1 rfl dX8_test_111 rfl ?_
            refine v_getV hc kX8 0 (by decide) w_378 rfl dX8_test_112 (gR rfl fun x112 => ?_)
            refine v_getVN hc kX7 7 (by decide) w_198 rfl dX8_test_115 (gR rfl fun x115 => ?_)
            refine v_iload_n (i := 3) hc 0 rfl dX8_test_118 rfl ?_
            refine v_iconst (x := (2 : Int32)) hc dX8_test_119 zi_2 ?_
            refine v_aload_n (i := 0) hc 1 rfl dX8_test_120 rfl ?_
            refine v_getV hc kX8 0 (by decide) w_378 rfl dX8_test_121 (gR rfl fun x121 => ?_)
            refine v_getVN hc kX7 0 (by decide) w_180 rfl dX8_test_124 (gI rfl fun x124 => ?_)
            refine v_cV hc (m_V' (As := [.int x81.1, .int (2 : Int32), .int x124]) (b := x115) (rest := []) 3 hc hr (fun l D tys base => ct5_put l D tys base x108 x115 x81.1 (2 : Int32) x124) (fun x hx => ob5_put hx) rfl s5_put w_440 rfl ⟨Nat.le_of_ble_eq_true rfl, Nat.le_of_ble_eq_true rfl⟩ ⟨Nat.le_of_ble_eq_true rfl, Nat.le_of_ble_eq_true rfl⟩ (Nat.le_of_ble_eq_true rfl) dX8_test_127) fun x127 => ?_
            refine v_aload_n (i := 0) hc 1 rfl dX8_test_130 rfl ?_
            refine v_getV hc kX8 0 (by decide) w_378 rfl dX8_test_131 (gR rfl fun x131 => ?_)
            refine v_iload_n (i := 1) hc 2 rfl dX8_test_134 rfl ?_
            refine v_cI hc (m_V' (As := [.int p0]) (b := x131) (rest := []) 1 hc hr (fun l D tys base => ct7_tooYoung l D tys base x127 x131 p0) (fun x hx => ob7_tooYoung hx) rfl s7_tooYoung w_550 rfl ⟨Nat.le_of_ble_eq_true rfl, Nat.le_of_ble_eq_true rfl⟩ ⟨Nat.le_of_ble_eq_true rfl, Nat.le_of_ble_eq_true rfl⟩ (Nat.le_of_ble_eq_true rfl) dX8_test_135) fun x135 => ?_
            refine v_iload_n (i := 2) hc 3 rfl dX8_test_138 rfl ?_
            refine v_cB hc (m_S' (As := [.int x135, .int p1]) (rest := []) 2 hc hr (fun l D tys base => ct8_hasBit l D tys base x127 x135 p1) s8_hasBit w_888 rfl ⟨Nat.le_of_ble_eq_true rfl, Nat.le_of_ble_eq_true rfl⟩ ⟨Nat.le_of_ble_eq_true rfl, Nat.le_of_ble_eq_true rfl⟩ (Nat.le_of_ble_eq_true rfl) dX8_test_139) fun x139 => ?_
            refine v_ifb_eq hc 149 dX8_test_142 rfl ?_ ?_
            · refine v_iconst (x := (0 : Int32)) hc dX8_test_149 zi_0 ?_
              exact v_iret hc hq rfl rfl (Nat.le_of_ble_eq_true rfl) (Nat.le_of_ble_eq_true rfl) rfl dX8_test_150
            · refine v_iconst (x := (1 : Int32)) hc dX8_test_145 zi_1 ?_
              refine v_goto hc 150 dX8_test_146 rfl ?_
              exact v_iret hc hq rfl rfl (Nat.le_of_ble_eq_true rfl) (Nat.le_of_ble_eq_true rfl) rfl dX8_test_150
          · refine v_iconst (x := (-1 : Int32)) hc dX8_test_72 zi_m1 ?_
            exact v_iret hc hq rfl rfl (Nat.le_of_ble_eq_true rfl) (Nat.le_of_ble_eq_true rfl) rfl dX8_test_73
        · refine v_iconst (x := (-1 : Int32)) hc dX8_test_50 zi_m1 ?_
          exact v_iret hc hq rfl rfl (Nat.le_of_ble_eq_true rfl) (Nat.le_of_ble_eq_true rfl) rfl dX8_test_51
    · refine v_iconst (x := (-1 : Int32)) hc dX8_test_24 zi_m1 ?_
      exact v_iret hc hq rfl rfl (Nat.le_of_ble_eq_true rfl) (Nat.le_of_ble_eq_true rfl) rfl dX8_test_25
theorem s8_test : YV yX8_test RX8 cX8_test 4 (some .int) 2 := ⟨w_887, w_885, w_886, w_108, rfl, by decide +kernel, by decide +kernel, by decide +kernel⟩
def f8_keep (h : AH) (this : Nat) (p0 : Int32) (p1 : Int32) : Option (Int32 × AH) := (hObj 8 h this).bind fun _ => (fR 8 0 h this).bind fun x1 => (fR 7 4 h x1).bind fun x4 => (f5_has h x4 p0).bind fun x8 => (if x8 = true then (f8_isFrom h p1 (0 : Int32) (519 : Int32)).bind fun x19 => (if x19 = true then (fR 8 0 h this).bind fun x28 => (fR 7 4 h x28).bind fun x31 => (f5_at h x31 p0 (9 : Int32)).bind fun x37 => (fR 8 0 h this).bind fun x42 => (fR 7 4 h x42).bind fun x45 => (f5_put h x45 p0 (9 : Int32) p1).bind fun x52 => some (x37, x52) else some ((-1 : Int32), h)) else some ((-1 : Int32), h))
theorem ob8_keep {h : AH} {this : Nat} {p0 : Int32} {p1 : Int32} {x : Int32 × AH} (e : f8_keep h this p0 p1 = some x) : ∃ fs, hObj 8 h this = some fs := by
  unfold f8_keep at e
  obtain ⟨fs, h1, -⟩ := bd e
  exact ⟨fs, h1⟩
set_option maxRecDepth 100000 in
theorem ct8_keep (l : Launch) (D : va_G) (tys : Tys) (base : Nat) (h : AH) (this : Nat) (p0 : Int32) (p1 : Int32) : Ct l D tys base yX8_keep cX8_keep 4 (some .int) 3 67 0 0 [.ref this, .int p0, .int p1] h (wI) (f8_keep h this p0 p1) := by
  refine Ct.intro (own := RX8) (L := [(0, .ref this), (1, .int p0), (2, .int p1)]) rfl (by decide) rfl (Nat.le_of_ble_eq_true rfl) fun κ hc hr hq hi hL => ?_
  have hn : ∀ i, i < 4 → i < κ.2.2.2.2.1 := fun i q => hL ▸ q
  unfold f8_keep
  refine v_obj ?_
  refine v_aload_n (i := 0) hc 0 rfl dX8_keep_0 rfl ?_
  refine v_getV hc kX8 0 (by decide) w_378 rfl dX8_keep_1 (gR rfl fun x1 => ?_)
  refine v_getVN hc kX7 4 (by decide) w_191 rfl dX8_keep_4 (gR rfl fun x4 => ?_)
  refine v_iload_n (i := 1) hc 1 rfl dX8_keep_7 rfl ?_
  refine v_cB hc (m_V' (As := [.int p0]) (b := x4) (rest := []) 1 hc hr (fun l D tys base => ct5_has l D tys base h x4 p0) (fun x hx => ob5_has hx) rfl s5_has w_482 rfl ⟨Nat.le_of_ble_eq_true rfl, Nat.le_of_ble_eq_true rfl⟩ ⟨Nat.le_of_ble_eq_true rfl, Nat.le_of_ble_eq_true rfl⟩ (Nat.le_of_ble_eq_true rfl) dX8_keep_8) fun x8 => ?_
  refine v_ifb_eq hc 25 dX8_keep_11 rfl ?_ ?_
  · refine v_iconst (x := (-1 : Int32)) hc dX8_keep_25 zi_m1 ?_
    exact v_iret hc hq rfl rfl (Nat.le_of_ble_eq_true rfl) (Nat.le_of_ble_eq_true rfl) rfl dX8_keep_26
  · refine v_iload_n (i := 2) hc 2 rfl dX8_keep_14 rfl ?_
    refine v_iconst (x := (0 : Int32)) hc dX8_keep_15 zi_0 ?_
    refine v_sipush (x := (519 : Int32)) hc dX8_keep_16 zs_519 ?_
    refine v_cB hc (m_S' (As := [.int p1, .int (0 : Int32), .int (519 : Int32)]) (rest := []) 3 hc hr (fun l D tys base => ct8_isFrom l D tys base h p1 (0 : Int32) (519 : Int32)) s8_isFrom w_413 rfl ⟨Nat.le_of_ble_eq_true rfl, Nat.le_of_ble_eq_true rfl⟩ ⟨Nat.le_of_ble_eq_true rfl, Nat.le_of_ble_eq_true rfl⟩ (Nat.le_of_ble_eq_true rfl) dX8_keep_19) fun x19 => ?_
    refine v_ifb_ne hc 27 dX8_keep_22 rfl ?_ ?_
    · refine v_aload_n (i := 0) hc 0 rfl dX8_keep_27 rfl ?_
      refine v_getV hc kX8 0 (by decide) w_378 rfl dX8_keep_28 (gR rfl fun x28 => ?_)
      refine v_getVN hc kX7 4 (by decide) w_191 rfl dX8_keep_31 (gR rfl fun x31 => ?_)
      refine v_iload_n (i := 1) hc 1 rfl dX8_keep_34 rfl ?_
      refine v_bipush (x := (9 : Int32)) hc dX8_keep_35 zb_9 ?_
      refine v_cI hc (m_V' (As := [.int p0, .int (9 : Int32)]) (b := x31) (rest := []) 2 hc hr (fun l D tys base => ct5_at l D tys base h x31 p0 (9 : Int32)) (fun x hx => ob5_at hx) rfl s5_at w_546 rfl ⟨Nat.le_of_ble_eq_true rfl, Nat.le_of_ble_eq_true rfl⟩ ⟨Nat.le_of_ble_eq_true rfl, Nat.le_of_ble_eq_true rfl⟩ (Nat.le_of_ble_eq_true rfl) dX8_keep_37) fun x37 => ?_
      refine v_istore_n (i := 3) (L' := [(3, .int x37), (0, .ref this), (1, .int p0), (2, .int p1)]) hc dX8_keep_40 rfl (hn 3 (Nat.le_of_ble_eq_true rfl)) rfl ?_
      refine v_aload_n (i := 0) hc 1 rfl dX8_keep_41 rfl ?_
      refine v_getV hc kX8 0 (by decide) w_378 rfl dX8_keep_42 (gR rfl fun x42 => ?_)
      refine v_getVN hc kX7 4 (by decide) w_191 rfl dX8_keep_45 (gR rfl fun x45 => ?_)
      refine v_iload_n (i := 1) hc 2 rfl dX8_keep_48 rfl ?_
      refine v_bipush (x := (9 : Int32)) hc dX8_keep_49 zb_9 ?_
      refine v_iload_n (i := 2) hc 3 rfl dX8_keep_51 rfl ?_
      refine v_cV hc (m_V' (As := [.int p0, .int (9 : Int32), .int p1]) (b := x45) (rest := []) 3 hc hr (fun l D tys base => ct5_put l D tys base h x45 p0 (9 : Int32) p1) (fun x hx => ob5_put hx) rfl s5_put w_440 rfl ⟨Nat.le_of_ble_eq_true rfl, Nat.le_of_ble_eq_true rfl⟩ ⟨Nat.le_of_ble_eq_true rfl, Nat.le_of_ble_eq_true rfl⟩ (Nat.le_of_ble_eq_true rfl) dX8_keep_52) fun x52 => ?_
      refine v_iload_n (i := 3) hc 0 rfl dX8_keep_55 rfl ?_
      exact v_iret hc hq rfl rfl (Nat.le_of_ble_eq_true rfl) (Nat.le_of_ble_eq_true rfl) rfl dX8_keep_56
    · refine v_iconst (x := (-1 : Int32)) hc dX8_keep_25 zi_m1 ?_
      exact v_iret hc hq rfl rfl (Nat.le_of_ble_eq_true rfl) (Nat.le_of_ble_eq_true rfl) rfl dX8_keep_26
theorem s8_keep : YV yX8_keep RX8 cX8_keep 4 (some .int) 2 := ⟨w_892, w_890, w_891, w_108, rfl, by decide +kernel, by decide +kernel, by decide +kernel⟩
def f8_stand (h : AH) (this : Nat) (p0 : Int32) (p1 : Int32) : Option (Int32) := (hObj 8 h this).bind fun _ => (fR 8 0 h this).bind fun x1 => (fR 7 4 h x1).bind fun x4 => (f5_has h x4 p0).bind fun x8 => (if x8 = true then (f8_isFrom h p1 (0 : Int32) (519 : Int32)).bind fun x19 => (if x19 = true then (fR 8 0 h this).bind fun x28 => (f7_standUpTo h x28 p0 p1).bind fun x33 => some x33 else some (-1 : Int32)) else some (-1 : Int32))
theorem ob8_stand {h : AH} {this : Nat} {p0 : Int32} {p1 : Int32} {x : Int32} (e : f8_stand h this p0 p1 = some x) : ∃ fs, hObj 8 h this = some fs := by
  unfold f8_stand at e
  obtain ⟨fs, h1, -⟩ := bd e
  exact ⟨fs, h1⟩
set_option maxRecDepth 100000 in
theorem ct8_stand (l : Launch) (D : va_G) (tys : Tys) (base : Nat) (h : AH) (this : Nat) (p0 : Int32) (p1 : Int32) : Ct l D tys base yX8_stand cX8_stand 3 (some .int) 6 159 0 0 [.ref this, .int p0, .int p1] h (rI h) (f8_stand h this p0 p1) := by
  refine Ct.intro (own := RX8) (L := [(0, .ref this), (1, .int p0), (2, .int p1)]) rfl (by decide) rfl (Nat.le_of_ble_eq_true rfl) fun κ hc hr hq hi hL => ?_
  have hn : ∀ i, i < 3 → i < κ.2.2.2.2.1 := fun i q => hL ▸ q
  unfold f8_stand
  refine v_obj ?_
  refine v_aload_n (i := 0) hc 0 rfl dX8_stand_0 rfl ?_
  refine v_getV hc kX8 0 (by decide) w_378 rfl dX8_stand_1 (gR rfl fun x1 => ?_)
  refine v_getVN hc kX7 4 (by decide) w_191 rfl dX8_stand_4 (gR rfl fun x4 => ?_)
  refine v_iload_n (i := 1) hc 1 rfl dX8_stand_7 rfl ?_
  refine v_cB hc (m_V' (As := [.int p0]) (b := x4) (rest := []) 1 hc hr (fun l D tys base => ct5_has l D tys base h x4 p0) (fun x hx => ob5_has hx) rfl s5_has w_482 rfl ⟨Nat.le_of_ble_eq_true rfl, Nat.le_of_ble_eq_true rfl⟩ ⟨Nat.le_of_ble_eq_true rfl, Nat.le_of_ble_eq_true rfl⟩ (Nat.le_of_ble_eq_true rfl) dX8_stand_8) fun x8 => ?_
  refine v_ifb_eq hc 25 dX8_stand_11 rfl ?_ ?_
  · refine v_iconst (x := (-1 : Int32)) hc dX8_stand_25 zi_m1 ?_
    exact v_iret hc hq rfl rfl (Nat.le_of_ble_eq_true rfl) (Nat.le_of_ble_eq_true rfl) rfl dX8_stand_26
  · refine v_iload_n (i := 2) hc 2 rfl dX8_stand_14 rfl ?_
    refine v_iconst (x := (0 : Int32)) hc dX8_stand_15 zi_0 ?_
    refine v_sipush (x := (519 : Int32)) hc dX8_stand_16 zs_519 ?_
    refine v_cB hc (m_S' (As := [.int p1, .int (0 : Int32), .int (519 : Int32)]) (rest := []) 3 hc hr (fun l D tys base => ct8_isFrom l D tys base h p1 (0 : Int32) (519 : Int32)) s8_isFrom w_413 rfl ⟨Nat.le_of_ble_eq_true rfl, Nat.le_of_ble_eq_true rfl⟩ ⟨Nat.le_of_ble_eq_true rfl, Nat.le_of_ble_eq_true rfl⟩ (Nat.le_of_ble_eq_true rfl) dX8_stand_19) fun x19 => ?_
    refine v_ifb_ne hc 27 dX8_stand_22 rfl ?_ ?_
    · refine v_aload_n (i := 0) hc 0 rfl dX8_stand_27 rfl ?_
      refine v_getV hc kX8 0 (by decide) w_378 rfl dX8_stand_28 (gR rfl fun x28 => ?_)
      refine v_iload_n (i := 1) hc 1 rfl dX8_stand_31 rfl ?_
      refine v_iload_n (i := 2) hc 2 rfl dX8_stand_32 rfl ?_
      refine v_cI hc (m_V' (As := [.int p0, .int p1]) (b := x28) (rest := []) 2 hc hr (fun l D tys base => ct7_standUpTo l D tys base h x28 p0 p1) (fun x hx => ob7_standUpTo hx) rfl s7_standUpTo w_897 rfl ⟨Nat.le_of_ble_eq_true rfl, Nat.le_of_ble_eq_true rfl⟩ ⟨Nat.le_of_ble_eq_true rfl, Nat.le_of_ble_eq_true rfl⟩ (Nat.le_of_ble_eq_true rfl) dX8_stand_33) fun x33 => ?_
      exact v_iret hc hq rfl rfl (Nat.le_of_ble_eq_true rfl) (Nat.le_of_ble_eq_true rfl) rfl dX8_stand_36
    · refine v_iconst (x := (-1 : Int32)) hc dX8_stand_25 zi_m1 ?_
      exact v_iret hc hq rfl rfl (Nat.le_of_ble_eq_true rfl) (Nat.le_of_ble_eq_true rfl) rfl dX8_stand_26
theorem s8_stand : YV yX8_stand RX8 cX8_stand 3 (some .int) 2 := ⟨w_896, w_894, w_895, w_108, rfl, by decide +kernel, by decide +kernel, by decide +kernel⟩
def f8_cost (h : AH) (this : Nat) (p0 : Int32) : Option (Int32) := (hObj 8 h this).bind fun _ => (fR 8 0 h this).bind fun x1 => (fR 7 4 h x1).bind fun x4 => (f5_has h x4 p0).bind fun x8 => (if x8 = true then (fR 8 0 h this).bind fun x15 => (f7_costOfKeeping h x15 p0).bind fun x19 => some x19 else some (-1 : Int32))
theorem ob8_cost {h : AH} {this : Nat} {p0 : Int32} {x : Int32} (e : f8_cost h this p0 = some x) : ∃ fs, hObj 8 h this = some fs := by
  unfold f8_cost at e
  obtain ⟨fs, h1, -⟩ := bd e
  exact ⟨fs, h1⟩
set_option maxRecDepth 100000 in
theorem ct8_cost (l : Launch) (D : va_G) (tys : Tys) (base : Nat) (h : AH) (this : Nat) (p0 : Int32) : Ct l D tys base yX8_cost cX8_cost 2 (some .int) 6 156 0 0 [.ref this, .int p0] h (rI h) (f8_cost h this p0) := by
  refine Ct.intro (own := RX8) (L := [(0, .ref this), (1, .int p0)]) rfl (by decide) rfl (Nat.le_of_ble_eq_true rfl) fun κ hc hr hq hi hL => ?_
  have hn : ∀ i, i < 2 → i < κ.2.2.2.2.1 := fun i q => hL ▸ q
  unfold f8_cost
  refine v_obj ?_
  refine v_aload_n (i := 0) hc 0 rfl dX8_cost_0 rfl ?_
  refine v_getV hc kX8 0 (by decide) w_378 rfl dX8_cost_1 (gR rfl fun x1 => ?_)
  refine v_getVN hc kX7 4 (by decide) w_191 rfl dX8_cost_4 (gR rfl fun x4 => ?_)
  refine v_iload_n (i := 1) hc 1 rfl dX8_cost_7 rfl ?_
  refine v_cB hc (m_V' (As := [.int p0]) (b := x4) (rest := []) 1 hc hr (fun l D tys base => ct5_has l D tys base h x4 p0) (fun x hx => ob5_has hx) rfl s5_has w_482 rfl ⟨Nat.le_of_ble_eq_true rfl, Nat.le_of_ble_eq_true rfl⟩ ⟨Nat.le_of_ble_eq_true rfl, Nat.le_of_ble_eq_true rfl⟩ (Nat.le_of_ble_eq_true rfl) dX8_cost_8) fun x8 => ?_
  refine v_ifb_eq hc 25 dX8_cost_11 rfl ?_ ?_
  · refine v_iconst (x := (-1 : Int32)) hc dX8_cost_25 zi_m1 ?_
    exact v_iret hc hq rfl rfl (Nat.le_of_ble_eq_true rfl) (Nat.le_of_ble_eq_true rfl) rfl dX8_cost_26
  · refine v_aload_n (i := 0) hc 0 rfl dX8_cost_14 rfl ?_
    refine v_getV hc kX8 0 (by decide) w_378 rfl dX8_cost_15 (gR rfl fun x15 => ?_)
    refine v_iload_n (i := 1) hc 1 rfl dX8_cost_18 rfl ?_
    refine v_cI hc (m_V' (As := [.int p0]) (b := x15) (rest := []) 1 hc hr (fun l D tys base => ct7_costOfKeeping l D tys base h x15 p0) (fun x hx => ob7_costOfKeeping hx) rfl s7_costOfKeeping w_906 rfl ⟨Nat.le_of_ble_eq_true rfl, Nat.le_of_ble_eq_true rfl⟩ ⟨Nat.le_of_ble_eq_true rfl, Nat.le_of_ble_eq_true rfl⟩ (Nat.le_of_ble_eq_true rfl) dX8_cost_19) fun x19 => ?_
    refine v_goto hc 26 dX8_cost_22 rfl ?_
    exact v_iret hc hq rfl rfl (Nat.le_of_ble_eq_true rfl) (Nat.le_of_ble_eq_true rfl) rfl dX8_cost_26
theorem s8_cost : YV yX8_cost RX8 cX8_cost 2 (some .int) 1 := ⟨w_905, w_903, w_904, w_108, rfl, by decide +kernel, by decide +kernel, by decide +kernel⟩
def f8_cheapest (h : AH) (this : Nat) (p0 : Int32) : Option (Int32) := (hObj 8 h this).bind fun _ => (fR 8 0 h this).bind fun x1 => (fR 7 4 h x1).bind fun x4 => (f5_has h x4 p0).bind fun x8 => (if x8 = true then (fR 8 0 h this).bind fun x15 => (f7_cheapestTooYoung h x15 p0).bind fun x19 => some x19 else some (-1 : Int32))
theorem ob8_cheapest {h : AH} {this : Nat} {p0 : Int32} {x : Int32} (e : f8_cheapest h this p0 = some x) : ∃ fs, hObj 8 h this = some fs := by
  unfold f8_cheapest at e
  obtain ⟨fs, h1, -⟩ := bd e
  exact ⟨fs, h1⟩
set_option maxRecDepth 100000 in
theorem ct8_cheapest (l : Launch) (D : va_G) (tys : Tys) (base : Nat) (h : AH) (this : Nat) (p0 : Int32) : Ct l D tys base yX8_cheapest cX8_cheapest 2 (some .int) 6 157 0 0 [.ref this, .int p0] h (rI h) (f8_cheapest h this p0) := by
  refine Ct.intro (own := RX8) (L := [(0, .ref this), (1, .int p0)]) rfl (by decide) rfl (Nat.le_of_ble_eq_true rfl) fun κ hc hr hq hi hL => ?_
  have hn : ∀ i, i < 2 → i < κ.2.2.2.2.1 := fun i q => hL ▸ q
  unfold f8_cheapest
  refine v_obj ?_
  refine v_aload_n (i := 0) hc 0 rfl dX8_cheapest_0 rfl ?_
  refine v_getV hc kX8 0 (by decide) w_378 rfl dX8_cheapest_1 (gR rfl fun x1 => ?_)
  refine v_getVN hc kX7 4 (by decide) w_191 rfl dX8_cheapest_4 (gR rfl fun x4 => ?_)
  refine v_iload_n (i := 1) hc 1 rfl dX8_cheapest_7 rfl ?_
  refine v_cB hc (m_V' (As := [.int p0]) (b := x4) (rest := []) 1 hc hr (fun l D tys base => ct5_has l D tys base h x4 p0) (fun x hx => ob5_has hx) rfl s5_has w_482 rfl ⟨Nat.le_of_ble_eq_true rfl, Nat.le_of_ble_eq_true rfl⟩ ⟨Nat.le_of_ble_eq_true rfl, Nat.le_of_ble_eq_true rfl⟩ (Nat.le_of_ble_eq_true rfl) dX8_cheapest_8) fun x8 => ?_
  refine v_ifb_eq hc 25 dX8_cheapest_11 rfl ?_ ?_
  · refine v_iconst (x := (-1 : Int32)) hc dX8_cheapest_25 zi_m1 ?_
    exact v_iret hc hq rfl rfl (Nat.le_of_ble_eq_true rfl) (Nat.le_of_ble_eq_true rfl) rfl dX8_cheapest_26
  · refine v_aload_n (i := 0) hc 0 rfl dX8_cheapest_14 rfl ?_
    refine v_getV hc kX8 0 (by decide) w_378 rfl dX8_cheapest_15 (gR rfl fun x15 => ?_)
    refine v_iload_n (i := 1) hc 1 rfl dX8_cheapest_18 rfl ?_
    refine v_cI hc (m_V' (As := [.int p0]) (b := x15) (rest := []) 1 hc hr (fun l D tys base => ct7_cheapestTooYoung l D tys base h x15 p0) (fun x hx => ob7_cheapestTooYoung hx) rfl s7_cheapestTooYoung w_914 rfl ⟨Nat.le_of_ble_eq_true rfl, Nat.le_of_ble_eq_true rfl⟩ ⟨Nat.le_of_ble_eq_true rfl, Nat.le_of_ble_eq_true rfl⟩ (Nat.le_of_ble_eq_true rfl) dX8_cheapest_19) fun x19 => ?_
    refine v_goto hc 26 dX8_cheapest_22 rfl ?_
    exact v_iret hc hq rfl rfl (Nat.le_of_ble_eq_true rfl) (Nat.le_of_ble_eq_true rfl) rfl dX8_cheapest_26
theorem s8_cheapest : YV yX8_cheapest RX8 cX8_cheapest 2 (some .int) 1 := ⟨w_913, w_911, w_912, w_108, rfl, by decide +kernel, by decide +kernel, by decide +kernel⟩
def f8_likely (h : AH) (this : Nat) (p0 : Int32) : Option (Int32) := (hObj 8 h this).bind fun _ => (fR 8 0 h this).bind fun x1 => (fR 7 4 h x1).bind fun x4 => (f5_has h x4 p0).bind fun x8 => (if x8 = true then (fR 8 0 h this).bind fun x15 => (f7_likeliestSource h x15 p0).bind fun x19 => some x19 else some (-1 : Int32))
theorem ob8_likely {h : AH} {this : Nat} {p0 : Int32} {x : Int32} (e : f8_likely h this p0 = some x) : ∃ fs, hObj 8 h this = some fs := by
  unfold f8_likely at e
  obtain ⟨fs, h1, -⟩ := bd e
  exact ⟨fs, h1⟩
set_option maxRecDepth 100000 in
theorem ct8_likely (l : Launch) (D : va_G) (tys : Tys) (base : Nat) (h : AH) (this : Nat) (p0 : Int32) : Ct l D tys base yX8_likely cX8_likely 2 (some .int) 6 162 0 0 [.ref this, .int p0] h (rI h) (f8_likely h this p0) := by
  refine Ct.intro (own := RX8) (L := [(0, .ref this), (1, .int p0)]) rfl (by decide) rfl (Nat.le_of_ble_eq_true rfl) fun κ hc hr hq hi hL => ?_
  have hn : ∀ i, i < 2 → i < κ.2.2.2.2.1 := fun i q => hL ▸ q
  unfold f8_likely
  refine v_obj ?_
  refine v_aload_n (i := 0) hc 0 rfl dX8_likely_0 rfl ?_
  refine v_getV hc kX8 0 (by decide) w_378 rfl dX8_likely_1 (gR rfl fun x1 => ?_)
  refine v_getVN hc kX7 4 (by decide) w_191 rfl dX8_likely_4 (gR rfl fun x4 => ?_)
  refine v_iload_n (i := 1) hc 1 rfl dX8_likely_7 rfl ?_
  refine v_cB hc (m_V' (As := [.int p0]) (b := x4) (rest := []) 1 hc hr (fun l D tys base => ct5_has l D tys base h x4 p0) (fun x hx => ob5_has hx) rfl s5_has w_482 rfl ⟨Nat.le_of_ble_eq_true rfl, Nat.le_of_ble_eq_true rfl⟩ ⟨Nat.le_of_ble_eq_true rfl, Nat.le_of_ble_eq_true rfl⟩ (Nat.le_of_ble_eq_true rfl) dX8_likely_8) fun x8 => ?_
  refine v_ifb_eq hc 25 dX8_likely_11 rfl ?_ ?_
  · refine v_iconst (x := (-1 : Int32)) hc dX8_likely_25 zi_m1 ?_
    exact v_iret hc hq rfl rfl (Nat.le_of_ble_eq_true rfl) (Nat.le_of_ble_eq_true rfl) rfl dX8_likely_26
  · refine v_aload_n (i := 0) hc 0 rfl dX8_likely_14 rfl ?_
    refine v_getV hc kX8 0 (by decide) w_378 rfl dX8_likely_15 (gR rfl fun x15 => ?_)
    refine v_iload_n (i := 1) hc 1 rfl dX8_likely_18 rfl ?_
    refine v_cI hc (m_V' (As := [.int p0]) (b := x15) (rest := []) 1 hc hr (fun l D tys base => ct7_likeliestSource l D tys base h x15 p0) (fun x hx => ob7_likeliestSource hx) rfl s7_likeliestSource w_922 rfl ⟨Nat.le_of_ble_eq_true rfl, Nat.le_of_ble_eq_true rfl⟩ ⟨Nat.le_of_ble_eq_true rfl, Nat.le_of_ble_eq_true rfl⟩ (Nat.le_of_ble_eq_true rfl) dX8_likely_19) fun x19 => ?_
    refine v_goto hc 26 dX8_likely_22 rfl ?_
    exact v_iret hc hq rfl rfl (Nat.le_of_ble_eq_true rfl) (Nat.le_of_ble_eq_true rfl) rfl dX8_likely_26
theorem s8_likely : YV yX8_likely RX8 cX8_likely 2 (some .int) 1 := ⟨w_921, w_919, w_920, w_108, rfl, by decide +kernel, by decide +kernel, by decide +kernel⟩
def f8_kin (h : AH) (this : Nat) (p0 : Int32) (p1 : Int32) : Option (Int32) := (hObj 8 h this).bind fun _ => (fR 8 0 h this).bind fun x1 => (f7_areUnlike h x1 p0 p1).bind fun x6 => (if x6 = true then (fR 8 0 h this).bind fun x15 => (f7_sourcesOf h x15 p0).bind fun x19 => (fR 8 0 h this).bind fun x23 => (f7_sourcesOf h x23 p1).bind fun x27 => (fJ6_bitCount_0f7a4 h (x19 &&& x27)).bind fun x31 => some x31 else some (-1 : Int32))
theorem ob8_kin {h : AH} {this : Nat} {p0 : Int32} {p1 : Int32} {x : Int32} (e : f8_kin h this p0 p1 = some x) : ∃ fs, hObj 8 h this = some fs := by
  unfold f8_kin at e
  obtain ⟨fs, h1, -⟩ := bd e
  exact ⟨fs, h1⟩
set_option maxRecDepth 100000 in
theorem ct8_kin (l : Launch) (D : va_G) (tys : Tys) (base : Nat) (h : AH) (this : Nat) (p0 : Int32) (p1 : Int32) : Ct l D tys base yX8_kin cX8_kin 3 (some .int) 5 136 0 0 [.ref this, .int p0, .int p1] h (rI h) (f8_kin h this p0 p1) := by
  refine Ct.intro (own := RX8) (L := [(0, .ref this), (1, .int p0), (2, .int p1)]) rfl (by decide) rfl (Nat.le_of_ble_eq_true rfl) fun κ hc hr hq hi hL => ?_
  have hn : ∀ i, i < 3 → i < κ.2.2.2.2.1 := fun i q => hL ▸ q
  unfold f8_kin
  refine v_obj ?_
  refine v_aload_n (i := 0) hc 0 rfl dX8_kin_0 rfl ?_
  refine v_getV hc kX8 0 (by decide) w_378 rfl dX8_kin_1 (gR rfl fun x1 => ?_)
  refine v_iload_n (i := 1) hc 1 rfl dX8_kin_4 rfl ?_
  refine v_iload_n (i := 2) hc 2 rfl dX8_kin_5 rfl ?_
  refine v_cB hc (m_V' (As := [.int p0, .int p1]) (b := x1) (rest := []) 2 hc hr (fun l D tys base => ct7_areUnlike l D tys base h x1 p0 p1) (fun x hx => ob7_areUnlike hx) rfl s7_areUnlike w_793 rfl ⟨Nat.le_of_ble_eq_true rfl, Nat.le_of_ble_eq_true rfl⟩ ⟨Nat.le_of_ble_eq_true rfl, Nat.le_of_ble_eq_true rfl⟩ (Nat.le_of_ble_eq_true rfl) dX8_kin_6) fun x6 => ?_
  refine v_ifb_ne hc 14 dX8_kin_9 rfl ?_ ?_
  · refine v_aload_n (i := 0) hc 0 rfl dX8_kin_14 rfl ?_
    refine v_getV hc kX8 0 (by decide) w_378 rfl dX8_kin_15 (gR rfl fun x15 => ?_)
    refine v_iload_n (i := 1) hc 1 rfl dX8_kin_18 rfl ?_
    refine v_cI hc (m_V' (As := [.int p0]) (b := x15) (rest := []) 1 hc hr (fun l D tys base => ct7_sourcesOf l D tys base h x15 p0) (fun x hx => ob7_sourcesOf hx) rfl s7_sourcesOf w_931 rfl ⟨Nat.le_of_ble_eq_true rfl, Nat.le_of_ble_eq_true rfl⟩ ⟨Nat.le_of_ble_eq_true rfl, Nat.le_of_ble_eq_true rfl⟩ (Nat.le_of_ble_eq_true rfl) dX8_kin_19) fun x19 => ?_
    refine v_aload_n (i := 0) hc 0 rfl dX8_kin_22 rfl ?_
    refine v_getV hc kX8 0 (by decide) w_378 rfl dX8_kin_23 (gR rfl fun x23 => ?_)
    refine v_iload_n (i := 2) hc 2 rfl dX8_kin_26 rfl ?_
    refine v_cI hc (m_V' (As := [.int p1]) (b := x23) (rest := [.int x19]) 1 hc hr (fun l D tys base => ct7_sourcesOf l D tys base h x23 p1) (fun x hx => ob7_sourcesOf hx) rfl s7_sourcesOf w_931 rfl ⟨Nat.le_of_ble_eq_true rfl, Nat.le_of_ble_eq_true rfl⟩ ⟨Nat.le_of_ble_eq_true rfl, Nat.le_of_ble_eq_true rfl⟩ (Nat.le_of_ble_eq_true rfl) dX8_kin_27) fun x27 => ?_
    refine v_iand hc dX8_kin_30 ?_
    refine v_cI hc (m_S' (As := [.int (x19 &&& x27)]) (rest := []) 1 hc hr (fun l D tys base => ctJ6_bitCount_0f7a4 l D tys base h (x19 &&& x27)) sJ6_bitCount_0f7a4 w_935 rfl ⟨Nat.le_of_ble_eq_true rfl, Nat.le_of_ble_eq_true rfl⟩ ⟨Nat.le_of_ble_eq_true rfl, Nat.le_of_ble_eq_true rfl⟩ (Nat.le_of_ble_eq_true rfl) dX8_kin_31) fun x31 => ?_
    exact v_iret hc hq rfl rfl (Nat.le_of_ble_eq_true rfl) (Nat.le_of_ble_eq_true rfl) rfl dX8_kin_34
  · refine v_iconst (x := (-1 : Int32)) hc dX8_kin_12 zi_m1 ?_
    exact v_iret hc hq rfl rfl (Nat.le_of_ble_eq_true rfl) (Nat.le_of_ble_eq_true rfl) rfl dX8_kin_13
theorem s8_kin : YV yX8_kin RX8 cX8_kin 3 (some .int) 2 := ⟨w_930, w_928, w_929, w_108, rfl, by decide +kernel, by decide +kernel, by decide +kernel⟩
def f8_could_20 (h : AH) (v0 : Nat) (v1 : Int32) : Nat → Int32 → Int32 → Option (Int32)
  | 0, _, _ => none
  | n + 1, v2, v3 => (fI 8 7 h v0).bind fun x22 => (if x22 ≤ v3 then some v2 else (fR 8 6 h v0).bind fun x30 => (aN h x30).bind fun x33 => (if x33 ≤ v3 then some v2 else (fR 8 6 h v0).bind fun x38 => (aQ 6 h x38 v3).bind fun x42 => (oM x42 ((some (v3 + (1 : Int32))).bind fun x69 => f8_could_20 h v0 v1 n v2 x69) fun a47 => (fR 8 0 h v0).bind fun x53 => (f0_canMake h a47 x53 v1).bind fun x57 => (if x57 = true then (some (v2 ||| ((1 : Int32) <<< (v3 &&& 31)))).bind fun x68 => (some (v3 + (1 : Int32))).bind fun x69 => f8_could_20 h v0 v1 n x68 x69 else (some (v3 + (1 : Int32))).bind fun x69 => f8_could_20 h v0 v1 n v2 x69))))
set_option maxRecDepth 100000 in
theorem vl8_could_20 {κ : Kx} (hc : CX κ RX8 cX8_could) (hr : RX κ ({ frames := 6, cells := 0, slots := 0, locals := 157 } : Room)) (hq : QX κ (some .int) 0 0) (hL : 5 = κ.2.2.2.2.1)  (h : AH) (v0 : Nat) (v1 : Int32) : ∀ n (v2 : Int32) (v3 : Int32), V κ (rI h) 0 0 20 [(0, .ref v0), (1, .int v1), (2, .int v2), (3, .int v3)] [] h (f8_could_20 h v0 v1 n v2 v3) := by
  have hn : ∀ i, i < 5 → i < κ.2.2.2.2.1 := fun i q => hL ▸ q
  intro n
  induction n with
  | zero => intros; exact v_none
  | succ n ih =>
    intro v2 v3
    rw [f8_could_20.eq_2]
    refine v_iload_n (i := 3) hc 3 rfl dX8_could_20 rfl ?_
    refine v_aload_n (i := 0) hc 0 rfl dX8_could_21 rfl ?_
    refine v_getV hc kX8 7 (by decide) w_385 rfl dX8_could_22 (gI rfl fun x22 => ?_)
    refine v_icmp_ge hc 75 dX8_could_25 rfl ?_ ?_
    · refine v_iload_n (i := 2) hc 2 rfl dX8_could_75 rfl ?_
      exact v_iret hc hq rfl rfl (Nat.le_of_ble_eq_true rfl) (Nat.le_of_ble_eq_true rfl) rfl dX8_could_76
    · refine v_iload_n (i := 3) hc 3 rfl dX8_could_28 rfl ?_
      refine v_aload_n (i := 0) hc 0 rfl dX8_could_29 rfl ?_
      refine v_getV hc kX8 6 (by decide) w_384 rfl dX8_could_30 (gR rfl fun x30 => ?_)
      refine v_alen hc dX8_could_33 fun x33 => ?_
      refine v_icmp_ge hc 75 dX8_could_34 rfl ?_ ?_
      · refine v_iload_n (i := 2) hc 2 rfl dX8_could_75 rfl ?_
        exact v_iret hc hq rfl rfl (Nat.le_of_ble_eq_true rfl) (Nat.le_of_ble_eq_true rfl) rfl dX8_could_76
      · refine v_aload_n (i := 0) hc 0 rfl dX8_could_37 rfl ?_
        refine v_getV hc kX8 6 (by decide) w_384 rfl dX8_could_38 (gR rfl fun x38 => ?_)
        refine v_iload_n (i := 3) hc 3 rfl dX8_could_41 rfl ?_
        refine v_aald 6 rfl hc dX8_could_42 fun x42 => ?_
        refine v_astoreq (i := 4) (x := x42) (L' := [(4, va_rf x42), (0, .ref v0), (1, .int v1), (2, .int v2), (3, .int v3)]) hc dX8_could_43 (hn 4 (Nat.le_of_ble_eq_true rfl)) rfl ?_
        refine v_aloadq (i := 4) (x := x42) hc 0 rfl dX8_could_45 ?_
        refine v_ifnull hc 69 dX8_could_47 rfl ?_ ?_
        · intro hx47
          subst hx47
          refine v_iincN (i := 3) (y := (1 : Int32)) (L' := fun z => [(3, .int z), (4, .null), (0, .ref v0), (1, .int v1), (2, .int v2)]) hc 4 rfl dX8_could_69 zi_1 (hn 3 (Nat.le_of_ble_eq_true rfl)) (fun _ => rfl) fun x69 => ?_
          refine v_goto hc 20 dX8_could_72 rfl ?_
          refine v_sub (L' := [(0, .ref v0), (1, .int v1), (2, .int v2), (3, .int x69)]) [2, 3, 4, 0] rfl ?_
          exact ih v2 x69
        · intro a47 hx47
          subst hx47
          refine v_aload (i := 4) hc 0 rfl dX8_could_50 ?_
          refine v_aload_n (i := 0) hc 1 rfl dX8_could_52 rfl ?_
          refine v_getV hc kX8 0 (by decide) w_378 rfl dX8_could_53 (gR rfl fun x53 => ?_)
          refine v_iload_n (i := 1) hc 2 rfl dX8_could_56 rfl ?_
          refine v_cB hc (m_V' (As := [.ref x53, .int v1]) (b := a47) (rest := []) 2 hc hr (fun l D tys base => ct0_canMake l D tys base h a47 x53 v1) (fun x hx => ob0_canMake hx) rfl s0_canMake w_945 rfl ⟨Nat.le_of_ble_eq_true rfl, Nat.le_of_ble_eq_true rfl⟩ ⟨Nat.le_of_ble_eq_true rfl, Nat.le_of_ble_eq_true rfl⟩ (Nat.le_of_ble_eq_true rfl) dX8_could_57) fun x57 => ?_
          refine v_ifb_eq hc 69 dX8_could_60 rfl ?_ ?_
          · refine v_iincN (i := 3) (y := (1 : Int32)) (L' := fun z => [(3, .int z), (4, .ref a47), (0, .ref v0), (1, .int v1), (2, .int v2)]) hc 4 rfl dX8_could_69 zi_1 (hn 3 (Nat.le_of_ble_eq_true rfl)) (fun _ => rfl) fun x69 => ?_
            refine v_goto hc 20 dX8_could_72 rfl ?_
            refine v_sub (L' := [(0, .ref v0), (1, .int v1), (2, .int v2), (3, .int x69)]) [2, 3, 4, 0] rfl ?_
            exact ih v2 x69
          · refine v_iload_n (i := 2) hc 3 rfl dX8_could_63 rfl ?_
            refine v_iconst (x := (1 : Int32)) hc dX8_could_64 zi_1 ?_
            refine v_iload_n (i := 3) hc 4 rfl dX8_could_65 rfl ?_
            refine v_ishl hc dX8_could_66 ?_
            refine v_ior hc dX8_could_67 ?_
            refine v_nmI fun x68 => ?_
            refine v_istore_n (i := 2) (L' := [(2, .int x68), (4, .ref a47), (0, .ref v0), (1, .int v1), (3, .int v3)]) hc dX8_could_68 rfl (hn 2 (Nat.le_of_ble_eq_true rfl)) rfl ?_
            refine v_iincN (i := 3) (y := (1 : Int32)) (L' := fun z => [(3, .int z), (2, .int x68), (4, .ref a47), (0, .ref v0), (1, .int v1)]) hc 4 rfl dX8_could_69 zi_1 (hn 3 (Nat.le_of_ble_eq_true rfl)) (fun _ => rfl) fun x69 => ?_
            refine v_goto hc 20 dX8_could_72 rfl ?_
            refine v_sub (L' := [(0, .ref v0), (1, .int v1), (2, .int x68), (3, .int x69)]) [3, 4, 1, 0] rfl ?_
            exact ih x68 x69
def f8_could (h : AH) (this : Nat) (p0 : Int32) : Option (Int32) := (hObj 8 h this).bind fun _ => (fR 8 0 h this).bind fun x1 => (fR 7 4 h x1).bind fun x4 => (f5_has h x4 p0).bind fun x8 => (if x8 = true then f8_could_20 h this p0 FU (0 : Int32) (0 : Int32) else some (-1 : Int32))
theorem ob8_could {h : AH} {this : Nat} {p0 : Int32} {x : Int32} (e : f8_could h this p0 = some x) : ∃ fs, hObj 8 h this = some fs := by
  unfold f8_could at e
  obtain ⟨fs, h1, -⟩ := bd e
  exact ⟨fs, h1⟩
set_option maxRecDepth 100000 in
theorem ct8_could (l : Launch) (D : va_G) (tys : Tys) (base : Nat) (h : AH) (this : Nat) (p0 : Int32) : Ct l D tys base yX8_could cX8_could 5 (some .int) 6 157 0 0 [.ref this, .int p0] h (rI h) (f8_could h this p0) := by
  refine Ct.intro (own := RX8) (L := [(0, .ref this), (1, .int p0)]) rfl (by decide) rfl (Nat.le_of_ble_eq_true rfl) fun κ hc hr hq hi hL => ?_
  have hn : ∀ i, i < 5 → i < κ.2.2.2.2.1 := fun i q => hL ▸ q
  unfold f8_could
  refine v_obj ?_
  refine v_aload_n (i := 0) hc 0 rfl dX8_could_0 rfl ?_
  refine v_getV hc kX8 0 (by decide) w_378 rfl dX8_could_1 (gR rfl fun x1 => ?_)
  refine v_getVN hc kX7 4 (by decide) w_191 rfl dX8_could_4 (gR rfl fun x4 => ?_)
  refine v_iload_n (i := 1) hc 1 rfl dX8_could_7 rfl ?_
  refine v_cB hc (m_V' (As := [.int p0]) (b := x4) (rest := []) 1 hc hr (fun l D tys base => ct5_has l D tys base h x4 p0) (fun x hx => ob5_has hx) rfl s5_has w_482 rfl ⟨Nat.le_of_ble_eq_true rfl, Nat.le_of_ble_eq_true rfl⟩ ⟨Nat.le_of_ble_eq_true rfl, Nat.le_of_ble_eq_true rfl⟩ (Nat.le_of_ble_eq_true rfl) dX8_could_8) fun x8 => ?_
  refine v_ifb_ne hc 16 dX8_could_11 rfl ?_ ?_
  · refine v_iconst (x := (0 : Int32)) hc dX8_could_16 zi_0 ?_
    refine v_istore_n (i := 2) (L' := [(2, .int (0 : Int32)), (0, .ref this), (1, .int p0)]) hc dX8_could_17 rfl (hn 2 (Nat.le_of_ble_eq_true rfl)) rfl ?_
    refine v_iconst (x := (0 : Int32)) hc dX8_could_18 zi_0 ?_
    refine v_istore_n (i := 3) (L' := [(3, .int (0 : Int32)), (2, .int (0 : Int32)), (0, .ref this), (1, .int p0)]) hc dX8_could_19 rfl (hn 3 (Nat.le_of_ble_eq_true rfl)) rfl ?_
    refine v_sub (L' := [(0, .ref this), (1, .int p0), (2, .int (0 : Int32)), (3, .int (0 : Int32))]) [2, 3, 1, 0] rfl ?_
    exact vl8_could_20 hc hr hq hL h this p0 FU (0 : Int32) (0 : Int32)
  · refine v_iconst (x := (-1 : Int32)) hc dX8_could_14 zi_m1 ?_
    exact v_iret hc hq rfl rfl (Nat.le_of_ble_eq_true rfl) (Nat.le_of_ble_eq_true rfl) rfl dX8_could_15
theorem s8_could : YV yX8_could RX8 cX8_could 5 (some .int) 1 := ⟨w_944, w_942, w_943, w_108, rfl, by decide +kernel, by decide +kernel, by decide +kernel⟩
def f8_makerAt (h : AH) (this : Nat) (p0 : Int32) : Option (Option Nat) := (hObj 8 h this).bind fun _ => (fI 8 7 h this).bind fun x3 => (fR 8 6 h this).bind fun x7 => (aN h x7).bind fun x10 => (some (if x10 < x3 then x10 else x3)).bind fun z11 => (f8_isFrom h p0 (0 : Int32) (z11 - (1 : Int32))).bind fun x16 => (if x16 = true then (fR 8 6 h this).bind fun x23 => (aQ 6 h x23 p0).bind fun x27 => some x27 else some none)
theorem ob8_makerAt {h : AH} {this : Nat} {p0 : Int32} {x : Option Nat} (e : f8_makerAt h this p0 = some x) : ∃ fs, hObj 8 h this = some fs := by
  unfold f8_makerAt at e
  obtain ⟨fs, h1, -⟩ := bd e
  exact ⟨fs, h1⟩
set_option maxRecDepth 100000 in
theorem ct8_makerAt (l : Launch) (D : va_G) (tys : Tys) (base : Nat) (h : AH) (this : Nat) (p0 : Int32) : Ct l D tys base yX8_makerAt cX8_makerAt 2 (some (.object RX0)) 1 40 0 0 [.ref this, .int p0] h (rQ h) (f8_makerAt h this p0) := by
  refine Ct.intro (own := RX8) (L := [(0, .ref this), (1, .int p0)]) rfl (by decide) rfl (Nat.le_of_ble_eq_true rfl) fun κ hc hr hq hi hL => ?_
  have hn : ∀ i, i < 2 → i < κ.2.2.2.2.1 := fun i q => hL ▸ q
  unfold f8_makerAt
  refine v_obj ?_
  refine v_iload_n (i := 1) hc 1 rfl dX8_makerAt_0 rfl ?_
  refine v_iconst (x := (0 : Int32)) hc dX8_makerAt_1 zi_0 ?_
  refine v_aload_n (i := 0) hc 0 rfl dX8_makerAt_2 rfl ?_
  refine v_getV hc kX8 7 (by decide) w_385 rfl dX8_makerAt_3 (gI rfl fun x3 => ?_)
  refine v_aload_n (i := 0) hc 0 rfl dX8_makerAt_6 rfl ?_
  refine v_getV hc kX8 6 (by decide) w_384 rfl dX8_makerAt_7 (gR rfl fun x7 => ?_)
  refine v_alen hc dX8_makerAt_10 fun x10 => ?_
  refine v_mmin hc hr w_792 w_454 w_111 w_455 (Nat.le_of_ble_eq_true rfl) (Nat.le_of_ble_eq_true rfl) (Nat.le_of_ble_eq_true rfl) (Nat.le_of_ble_eq_true rfl) dX8_makerAt_11 (v_nmI fun z11 => ?_)
  refine v_iconst (x := (1 : Int32)) hc dX8_makerAt_14 zi_1 ?_
  refine v_isub hc dX8_makerAt_15 ?_
  refine v_cB hc (m_S' (As := [.int p0, .int (0 : Int32), .int (z11 - (1 : Int32))]) (rest := []) 3 hc hr (fun l D tys base => ct8_isFrom l D tys base h p0 (0 : Int32) (z11 - (1 : Int32))) s8_isFrom w_413 rfl ⟨Nat.le_of_ble_eq_true rfl, Nat.le_of_ble_eq_true rfl⟩ ⟨Nat.le_of_ble_eq_true rfl, Nat.le_of_ble_eq_true rfl⟩ (Nat.le_of_ble_eq_true rfl) dX8_makerAt_16) fun x16 => ?_
  refine v_ifb_eq hc 31 dX8_makerAt_19 rfl ?_ ?_
  · refine v_null hc dX8_makerAt_31 ?_
    exact v_aret (v := none) hc hq (Nat.le_of_ble_eq_true rfl) (Nat.le_of_ble_eq_true rfl) rfl dX8_makerAt_32
  · refine v_aload_n (i := 0) hc 0 rfl dX8_makerAt_22 rfl ?_
    refine v_getV hc kX8 6 (by decide) w_384 rfl dX8_makerAt_23 (gR rfl fun x23 => ?_)
    refine v_iload_n (i := 1) hc 1 rfl dX8_makerAt_26 rfl ?_
    refine v_aald 6 rfl hc dX8_makerAt_27 fun x27 => ?_
    refine v_goto hc 32 dX8_makerAt_28 rfl ?_
    exact v_aret (v := x27) hc hq (Nat.le_of_ble_eq_true rfl) (Nat.le_of_ble_eq_true rfl) rfl dX8_makerAt_32
theorem s8_makerAt : YV yX8_makerAt RX8 cX8_makerAt 2 (some (.object RX0)) 1 := ⟨w_970, w_969, w_37, w_108, rfl, by decide +kernel, by decide +kernel, by decide +kernel⟩
def f8_outrun (h : AH) (this : Nat) (p0 : Int32) (p1 : Int32) : Option (Int32) := (hObj 8 h this).bind fun _ => (f8_makerAt h this p0).bind fun x2 => (oM x2 (some (-1 : Int32)) fun a7 => (fR 8 0 h this).bind fun x13 => (fI 7 0 h x13).bind fun x16 => (f8_isFrom h p1 (0 : Int32) x16).bind fun x19 => (if x19 = true then (fR 8 0 h this).bind fun x28 => (fI 0 0 h a7).bind fun x32 => (f7_weekTooFast h x28 x32 p1).bind fun x36 => some x36 else some (-1 : Int32)))
theorem ob8_outrun {h : AH} {this : Nat} {p0 : Int32} {p1 : Int32} {x : Int32} (e : f8_outrun h this p0 p1 = some x) : ∃ fs, hObj 8 h this = some fs := by
  unfold f8_outrun at e
  obtain ⟨fs, h1, -⟩ := bd e
  exact ⟨fs, h1⟩
set_option maxRecDepth 100000 in
theorem ct8_outrun (l : Launch) (D : va_G) (tys : Tys) (base : Nat) (h : AH) (this : Nat) (p0 : Int32) (p1 : Int32) : Ct l D tys base yX8_outrun cX8_outrun 4 (some .int) 5 131 0 0 [.ref this, .int p0, .int p1] h (rI h) (f8_outrun h this p0 p1) := by
  refine Ct.intro (own := RX8) (L := [(0, .ref this), (1, .int p0), (2, .int p1)]) rfl (by decide) rfl (Nat.le_of_ble_eq_true rfl) fun κ hc hr hq hi hL => ?_
  have hn : ∀ i, i < 4 → i < κ.2.2.2.2.1 := fun i q => hL ▸ q
  unfold f8_outrun
  refine v_obj ?_
  refine v_aload_n (i := 0) hc 0 rfl dX8_outrun_0 rfl ?_
  refine v_iload_n (i := 1) hc 1 rfl dX8_outrun_1 rfl ?_
  refine v_cQ hc (m_V' (As := [.int p0]) (b := this) (rest := []) 1 hc hr (fun l D tys base => ct8_makerAt l D tys base h this p0) (fun x hx => ob8_makerAt hx) rfl s8_makerAt w_967 rfl ⟨Nat.le_of_ble_eq_true rfl, Nat.le_of_ble_eq_true rfl⟩ ⟨Nat.le_of_ble_eq_true rfl, Nat.le_of_ble_eq_true rfl⟩ (Nat.le_of_ble_eq_true rfl) dX8_outrun_2) fun x2 => ?_
  refine v_astoreq_n (i := 3) (x := x2) (L' := [(3, va_rf x2), (0, .ref this), (1, .int p0), (2, .int p1)]) hc dX8_outrun_5 rfl (hn 3 (Nat.le_of_ble_eq_true rfl)) rfl ?_
  refine v_aloadq_n (i := 3) (x := x2) hc 0 rfl dX8_outrun_6 rfl ?_
  refine v_ifnull hc 25 dX8_outrun_7 rfl ?_ ?_
  · intro hx7
    subst hx7
    refine v_iconst (x := (-1 : Int32)) hc dX8_outrun_25 zi_m1 ?_
    exact v_iret hc hq rfl rfl (Nat.le_of_ble_eq_true rfl) (Nat.le_of_ble_eq_true rfl) rfl dX8_outrun_26
  · intro a7 hx7
    subst hx7
    refine v_iload_n (i := 2) hc 3 rfl dX8_outrun_10 rfl ?_
    refine v_iconst (x := (0 : Int32)) hc dX8_outrun_11 zi_0 ?_
    refine v_aload_n (i := 0) hc 1 rfl dX8_outrun_12 rfl ?_
    refine v_getV hc kX8 0 (by decide) w_378 rfl dX8_outrun_13 (gR rfl fun x13 => ?_)
    refine v_getVN hc kX7 0 (by decide) w_180 rfl dX8_outrun_16 (gI rfl fun x16 => ?_)
    refine v_cB hc (m_S' (As := [.int p1, .int (0 : Int32), .int x16]) (rest := []) 3 hc hr (fun l D tys base => ct8_isFrom l D tys base h p1 (0 : Int32) x16) s8_isFrom w_413 rfl ⟨Nat.le_of_ble_eq_true rfl, Nat.le_of_ble_eq_true rfl⟩ ⟨Nat.le_of_ble_eq_true rfl, Nat.le_of_ble_eq_true rfl⟩ (Nat.le_of_ble_eq_true rfl) dX8_outrun_19) fun x19 => ?_
    refine v_ifb_ne hc 27 dX8_outrun_22 rfl ?_ ?_
    · refine v_aload_n (i := 0) hc 1 rfl dX8_outrun_27 rfl ?_
      refine v_getV hc kX8 0 (by decide) w_378 rfl dX8_outrun_28 (gR rfl fun x28 => ?_)
      refine v_aload_n (i := 3) hc 0 rfl dX8_outrun_31 rfl ?_
      refine v_getVN hc kX0 0 (by decide) w_361 rfl dX8_outrun_32 (gI rfl fun x32 => ?_)
      refine v_iload_n (i := 2) hc 3 rfl dX8_outrun_35 rfl ?_
      refine v_cI hc (m_V' (As := [.int x32, .int p1]) (b := x28) (rest := []) 2 hc hr (fun l D tys base => ct7_weekTooFast l D tys base h x28 x32 p1) (fun x hx => ob7_weekTooFast hx) rfl s7_weekTooFast w_971 rfl ⟨Nat.le_of_ble_eq_true rfl, Nat.le_of_ble_eq_true rfl⟩ ⟨Nat.le_of_ble_eq_true rfl, Nat.le_of_ble_eq_true rfl⟩ (Nat.le_of_ble_eq_true rfl) dX8_outrun_36) fun x36 => ?_
      exact v_iret hc hq rfl rfl (Nat.le_of_ble_eq_true rfl) (Nat.le_of_ble_eq_true rfl) rfl dX8_outrun_39
    · refine v_iconst (x := (-1 : Int32)) hc dX8_outrun_25 zi_m1 ?_
      exact v_iret hc hq rfl rfl (Nat.le_of_ble_eq_true rfl) (Nat.le_of_ble_eq_true rfl) rfl dX8_outrun_26
theorem s8_outrun : YV yX8_outrun RX8 cX8_outrun 4 (some .int) 2 := ⟨w_966, w_964, w_965, w_108, rfl, by decide +kernel, by decide +kernel, by decide +kernel⟩
def f8_grows (h : AH) (this : Nat) : Option (Int32) := (hObj 8 h this).bind fun _ => (fR 8 0 h this).bind fun x1 => (f7_growth h x1).bind fun x4 => some x4
theorem ob8_grows {h : AH} {this : Nat} {x : Int32} (e : f8_grows h this = some x) : ∃ fs, hObj 8 h this = some fs := by
  unfold f8_grows at e
  obtain ⟨fs, h1, -⟩ := bd e
  exact ⟨fs, h1⟩
set_option maxRecDepth 100000 in
theorem ct8_grows (l : Launch) (D : va_G) (tys : Tys) (base : Nat) (h : AH) (this : Nat) : Ct l D tys base yX8_grows cX8_grows 1 (some .int) 6 139 0 0 [.ref this] h (rI h) (f8_grows h this) := by
  refine Ct.intro (own := RX8) (L := [(0, .ref this)]) rfl (by decide) rfl (Nat.le_of_ble_eq_true rfl) fun κ hc hr hq hi hL => ?_
  have hn : ∀ i, i < 1 → i < κ.2.2.2.2.1 := fun i q => hL ▸ q
  unfold f8_grows
  refine v_obj ?_
  refine v_aload_n (i := 0) hc 0 rfl dX8_grows_0 rfl ?_
  refine v_getV hc kX8 0 (by decide) w_378 rfl dX8_grows_1 (gR rfl fun x1 => ?_)
  refine v_cI hc (m_V' (As := []) (b := x1) (rest := []) 0 hc hr (fun l D tys base => ct7_growth l D tys base h x1) (fun x hx => ob7_growth hx) rfl s7_growth w_979 rfl ⟨Nat.le_of_ble_eq_true rfl, Nat.le_of_ble_eq_true rfl⟩ ⟨Nat.le_of_ble_eq_true rfl, Nat.le_of_ble_eq_true rfl⟩ (Nat.le_of_ble_eq_true rfl) dX8_grows_4) fun x4 => ?_
  exact v_iret hc hq rfl rfl (Nat.le_of_ble_eq_true rfl) (Nat.le_of_ble_eq_true rfl) rfl dX8_grows_7
theorem s8_grows : YV yX8_grows RX8 cX8_grows 1 (some .int) 0 := ⟨w_978, w_976, w_977, w_108, rfl, by decide +kernel, by decide +kernel, by decide +kernel⟩
def f8_make (h : AH) (this : Nat) (p0 : Int32) (p1 : Int32) (p2 : Int32) (p3 : Int32) (p4 : Int32) : Option (Int32 × AH) := (hObj 8 h this).bind fun _ => (f8_makerAt h this p0).bind fun x2 => (oM x2 (some ((-1 : Int32), h)) fun a9 => (fR 8 0 h this).bind fun x13 => (fR 7 4 h x13).bind fun x16 => (f5_has h x16 p1).bind fun x20 => (if x20 = true then (if 0 ≤ p4 then (f8_isFrom h p2 (0 : Int32) (9999 : Int32)).bind fun x38 => (if x38 = true then (f8_isFrom h p3 (1 : Int32) (60 : Int32)).bind fun x49 => (if x49 = true then (fI 0 2 h a9).bind fun x59 => (fR 8 0 h this).bind fun x65 => (fR 7 1 h x65).bind fun x68 => (f5_size h x68).bind fun x71 => (f8_isFrom h x59 (0 : Int32) (((1 : Int32) <<< (x71 &&& 31)) - (1 : Int32))).bind fun x77 => (if x77 = true then (fR 8 0 h this).bind fun x88 => (f0_writePages h a9 x88 p1 p2 p3 p4 false).bind fun x98 => (fR 8 0 x98.2 this).bind fun x104 => (fR 7 5 x98.2 x104).bind fun x107 => (f2_size x98.2 x107).bind fun x110 => (if (x110 + x98.1) ≤ (400 : Int32) then (fR 8 0 x98.2 this).bind fun x127 => (f0_writePages x98.2 a9 x127 p1 p2 p3 p4 true).bind fun x137 => (fR 8 0 x137.2 this).bind fun x142 => (fR 7 4 x137.2 x142).bind fun x145 => (fR 8 0 x137.2 this).bind fun x152 => (fR 7 4 x137.2 x152).bind fun x155 => (f5_at x137.2 x155 p1 (6 : Int32)).bind fun x161 => (fI 0 2 x137.2 a9).bind fun x166 => (f5_put x137.2 x145 p1 (6 : Int32) (x161 ||| x166)).bind fun x170 => some (x98.1, x170) else some ((-1 : Int32), x98.2)) else some ((-1 : Int32), h)) else some ((-1 : Int32), h)) else some ((-1 : Int32), h)) else some ((-1 : Int32), h)) else some ((-1 : Int32), h)))
theorem ob8_make {h : AH} {this : Nat} {p0 : Int32} {p1 : Int32} {p2 : Int32} {p3 : Int32} {p4 : Int32} {x : Int32 × AH} (e : f8_make h this p0 p1 p2 p3 p4 = some x) : ∃ fs, hObj 8 h this = some fs := by
  unfold f8_make at e
  obtain ⟨fs, h1, -⟩ := bd e
  exact ⟨fs, h1⟩
set_option maxRecDepth 100000 in
theorem ct8_make (l : Launch) (D : va_G) (tys : Tys) (base : Nat) (h : AH) (this : Nat) (p0 : Int32) (p1 : Int32) (p2 : Int32) (p3 : Int32) (p4 : Int32) : Ct l D tys base yX8_make cX8_make 8 (some .int) 6 168 0 0 [.ref this, .int p0, .int p1, .int p2, .int p3, .int p4] h (wI) (f8_make h this p0 p1 p2 p3 p4) := by
  refine Ct.intro (own := RX8) (L := [(0, .ref this), (1, .int p0), (2, .int p1), (3, .int p2), (4, .int p3), (5, .int p4)]) rfl (by decide) rfl (Nat.le_of_ble_eq_true rfl) fun κ hc hr hq hi hL => ?_
  have hn : ∀ i, i < 8 → i < κ.2.2.2.2.1 := fun i q => hL ▸ q
  unfold f8_make
  refine v_obj ?_
  refine v_aload_n (i := 0) hc 0 rfl dX8_make_0 rfl ?_
  refine v_iload_n (i := 1) hc 1 rfl dX8_make_1 rfl ?_
  refine v_cQ hc (m_V' (As := [.int p0]) (b := this) (rest := []) 1 hc hr (fun l D tys base => ct8_makerAt l D tys base h this p0) (fun x hx => ob8_makerAt hx) rfl s8_makerAt w_967 rfl ⟨Nat.le_of_ble_eq_true rfl, Nat.le_of_ble_eq_true rfl⟩ ⟨Nat.le_of_ble_eq_true rfl, Nat.le_of_ble_eq_true rfl⟩ (Nat.le_of_ble_eq_true rfl) dX8_make_2) fun x2 => ?_
  refine v_astoreq (i := 6) (x := x2) (L' := [(6, va_rf x2), (0, .ref this), (1, .int p0), (2, .int p1), (3, .int p2), (4, .int p3), (5, .int p4)]) hc dX8_make_5 (hn 6 (Nat.le_of_ble_eq_true rfl)) rfl ?_
  refine v_aloadq (i := 6) (x := x2) hc 0 rfl dX8_make_7 ?_
  refine v_ifnull hc 31 dX8_make_9 rfl ?_ ?_
  · intro hx9
    subst hx9
    refine v_iconst (x := (-1 : Int32)) hc dX8_make_31 zi_m1 ?_
    exact v_iret hc hq rfl rfl (Nat.le_of_ble_eq_true rfl) (Nat.le_of_ble_eq_true rfl) rfl dX8_make_32
  · intro a9 hx9
    subst hx9
    refine v_aload_n (i := 0) hc 1 rfl dX8_make_12 rfl ?_
    refine v_getV hc kX8 0 (by decide) w_378 rfl dX8_make_13 (gR rfl fun x13 => ?_)
    refine v_getVN hc kX7 4 (by decide) w_191 rfl dX8_make_16 (gR rfl fun x16 => ?_)
    refine v_iload_n (i := 2) hc 3 rfl dX8_make_19 rfl ?_
    refine v_cB hc (m_V' (As := [.int p1]) (b := x16) (rest := []) 1 hc hr (fun l D tys base => ct5_has l D tys base h x16 p1) (fun x hx => ob5_has hx) rfl s5_has w_482 rfl ⟨Nat.le_of_ble_eq_true rfl, Nat.le_of_ble_eq_true rfl⟩ ⟨Nat.le_of_ble_eq_true rfl, Nat.le_of_ble_eq_true rfl⟩ (Nat.le_of_ble_eq_true rfl) dX8_make_20) fun x20 => ?_
    refine v_ifb_eq hc 31 dX8_make_23 rfl ?_ ?_
    · refine v_iconst (x := (-1 : Int32)) hc dX8_make_31 zi_m1 ?_
      exact v_iret hc hq rfl rfl (Nat.le_of_ble_eq_true rfl) (Nat.le_of_ble_eq_true rfl) rfl dX8_make_32
    · refine v_iload (i := 5) hc 6 rfl dX8_make_26 ?_
      refine v_if_ge hc 33 dX8_make_28 rfl ?_ ?_
      · refine v_iload_n (i := 3) hc 4 rfl dX8_make_33 rfl ?_
        refine v_iconst (x := (0 : Int32)) hc dX8_make_34 zi_0 ?_
        refine v_sipush (x := (9999 : Int32)) hc dX8_make_35 zs_9999 ?_
        refine v_cB hc (m_S' (As := [.int p2, .int (0 : Int32), .int (9999 : Int32)]) (rest := []) 3 hc hr (fun l D tys base => ct8_isFrom l D tys base h p2 (0 : Int32) (9999 : Int32)) s8_isFrom w_413 rfl ⟨Nat.le_of_ble_eq_true rfl, Nat.le_of_ble_eq_true rfl⟩ ⟨Nat.le_of_ble_eq_true rfl, Nat.le_of_ble_eq_true rfl⟩ (Nat.le_of_ble_eq_true rfl) dX8_make_38) fun x38 => ?_
        refine v_ifb_eq hc 55 dX8_make_41 rfl ?_ ?_
        · refine v_iconst (x := (-1 : Int32)) hc dX8_make_55 zi_m1 ?_
          exact v_iret hc hq rfl rfl (Nat.le_of_ble_eq_true rfl) (Nat.le_of_ble_eq_true rfl) rfl dX8_make_56
        · refine v_iload (i := 4) hc 5 rfl dX8_make_44 ?_
          refine v_iconst (x := (1 : Int32)) hc dX8_make_46 zi_1 ?_
          refine v_bipush (x := (60 : Int32)) hc dX8_make_47 zb_60 ?_
          refine v_cB hc (m_S' (As := [.int p3, .int (1 : Int32), .int (60 : Int32)]) (rest := []) 3 hc hr (fun l D tys base => ct8_isFrom l D tys base h p3 (1 : Int32) (60 : Int32)) s8_isFrom w_413 rfl ⟨Nat.le_of_ble_eq_true rfl, Nat.le_of_ble_eq_true rfl⟩ ⟨Nat.le_of_ble_eq_true rfl, Nat.le_of_ble_eq_true rfl⟩ (Nat.le_of_ble_eq_true rfl) dX8_make_49) fun x49 => ?_
          refine v_ifb_ne hc 57 dX8_make_52 rfl ?_ ?_
          · refine v_aload (i := 6) hc 0 rfl dX8_make_57 ?_
            refine v_getVN hc kX0 2 (by decide) w_364 rfl dX8_make_59 (gI rfl fun x59 => ?_)
            refine v_iconst (x := (0 : Int32)) hc dX8_make_62 zi_0 ?_
            refine v_iconst (x := (1 : Int32)) hc dX8_make_63 zi_1 ?_
            refine v_aload_n (i := 0) hc 1 rfl dX8_make_64 rfl ?_
            refine v_getV hc kX8 0 (by decide) w_378 rfl dX8_make_65 (gR rfl fun x65 => ?_)
            refine v_getVN hc kX7 1 (by decide) w_182 rfl dX8_make_68 (gR rfl fun x68 => ?_)
            refine v_cI hc (m_V' (As := []) (b := x68) (rest := [.int (1 : Int32), .int (0 : Int32), .int x59]) 0 hc hr (fun l D tys base => ct5_size l D tys base h x68) (fun x hx => ob5_size hx) rfl s5_size w_474 rfl ⟨Nat.le_of_ble_eq_true rfl, Nat.le_of_ble_eq_true rfl⟩ ⟨Nat.le_of_ble_eq_true rfl, Nat.le_of_ble_eq_true rfl⟩ (Nat.le_of_ble_eq_true rfl) dX8_make_71) fun x71 => ?_
            refine v_ishl hc dX8_make_74 ?_
            refine v_iconst (x := (1 : Int32)) hc dX8_make_75 zi_1 ?_
            refine v_isub hc dX8_make_76 ?_
            refine v_cB hc (m_S' (As := [.int x59, .int (0 : Int32), .int (((1 : Int32) <<< (x71 &&& 31)) - (1 : Int32))]) (rest := []) 3 hc hr (fun l D tys base => ct8_isFrom l D tys base h x59 (0 : Int32) (((1 : Int32) <<< (x71 &&& 31)) - (1 : Int32))) s8_isFrom w_413 rfl ⟨Nat.le_of_ble_eq_true rfl, Nat.le_of_ble_eq_true rfl⟩ ⟨Nat.le_of_ble_eq_true rfl, Nat.le_of_ble_eq_true rfl⟩ (Nat.le_of_ble_eq_true rfl) dX8_make_77) fun x77 => ?_
            refine v_ifb_ne hc 85 dX8_make_80 rfl ?_ ?_
            · refine v_aload (i := 6) hc 0 rfl dX8_make_85 ?_
              refine v_aload_n (i := 0) hc 1 rfl dX8_make_87 rfl ?_
              refine v_getV hc kX8 0 (by decide) w_378 rfl dX8_make_88 (gR rfl fun x88 => ?_)
              refine v_iload_n (i := 2) hc 3 rfl dX8_make_91 rfl ?_
              refine v_iload_n (i := 3) hc 4 rfl dX8_make_92 rfl ?_
              refine v_iload (i := 4) hc 5 rfl dX8_make_93 ?_
              refine v_iload (i := 5) hc 6 rfl dX8_make_95 ?_
              refine v_iconst (x := (0 : Int32)) hc dX8_make_97 zi_0 ?_
              refine v_cwI hc (m_V' (As := [.ref x88, .int p1, .int p2, .int p3, .int p4, .int (bI false)]) (b := a9) (rest := []) 6 hc hr (fun l D tys base => ct0_writePages l D tys base h a9 x88 p1 p2 p3 p4 false) (fun x hx => ob0_writePages hx) rfl s0_writePages w_994 rfl ⟨Nat.le_of_ble_eq_true rfl, Nat.le_of_ble_eq_true rfl⟩ ⟨Nat.le_of_ble_eq_true rfl, Nat.le_of_ble_eq_true rfl⟩ (Nat.le_of_ble_eq_true rfl) dX8_make_98) fun x98 => ?_
              refine v_istore (i := 7) (L' := [(7, .int x98.1), (6, .ref a9), (0, .ref this), (1, .int p0), (2, .int p1), (3, .int p2), (4, .int p3), (5, .int p4)]) hc dX8_make_101 (hn 7 (Nat.le_of_ble_eq_true rfl)) rfl ?_
              refine v_aload_n (i := 0) hc 2 rfl dX8_make_103 rfl ?_
              refine v_getV hc kX8 0 (by decide) w_378 rfl dX8_make_104 (gR rfl fun x104 => ?_)
              refine v_getVN hc kX7 5 (by decide) w_194 rfl dX8_make_107 (gR rfl fun x107 => ?_)
              refine v_cI hc (m_V' (As := []) (b := x107) (rest := []) 0 hc hr (fun l D tys base => ct2_size l D tys base x98.2 x107) (fun x hx => ob2_size hx) rfl s2_size w_1006 rfl ⟨Nat.le_of_ble_eq_true rfl, Nat.le_of_ble_eq_true rfl⟩ ⟨Nat.le_of_ble_eq_true rfl, Nat.le_of_ble_eq_true rfl⟩ (Nat.le_of_ble_eq_true rfl) dX8_make_110) fun x110 => ?_
              refine v_iload (i := 7) hc 0 rfl dX8_make_113 ?_
              refine v_iadd hc dX8_make_115 ?_
              refine v_sipush (x := (400 : Int32)) hc dX8_make_116 zs_400 ?_
              refine v_icmp_le hc 124 dX8_make_119 rfl ?_ ?_
              · refine v_aload (i := 6) hc 1 rfl dX8_make_124 ?_
                refine v_aload_n (i := 0) hc 2 rfl dX8_make_126 rfl ?_
                refine v_getV hc kX8 0 (by decide) w_378 rfl dX8_make_127 (gR rfl fun x127 => ?_)
                refine v_iload_n (i := 2) hc 4 rfl dX8_make_130 rfl ?_
                refine v_iload_n (i := 3) hc 5 rfl dX8_make_131 rfl ?_
                refine v_iload (i := 4) hc 6 rfl dX8_make_132 ?_
                refine v_iload (i := 5) hc 7 rfl dX8_make_134 ?_
                refine v_iconst (x := (1 : Int32)) hc dX8_make_136 zi_1 ?_
                refine v_cwI hc (m_V' (As := [.ref x127, .int p1, .int p2, .int p3, .int p4, .int (bI true)]) (b := a9) (rest := []) 6 hc hr (fun l D tys base => ct0_writePages l D tys base x98.2 a9 x127 p1 p2 p3 p4 true) (fun x hx => ob0_writePages hx) rfl s0_writePages w_994 rfl ⟨Nat.le_of_ble_eq_true rfl, Nat.le_of_ble_eq_true rfl⟩ ⟨Nat.le_of_ble_eq_true rfl, Nat.le_of_ble_eq_true rfl⟩ (Nat.le_of_ble_eq_true rfl) dX8_make_137) fun x137 => ?_
                refine v_pop hc dX8_make_140 rfl ?_
                refine v_aload_n (i := 0) hc 2 rfl dX8_make_141 rfl ?_
                refine v_getV hc kX8 0 (by decide) w_378 rfl dX8_make_142 (gR rfl fun x142 => ?_)
                refine v_getVN hc kX7 4 (by decide) w_191 rfl dX8_make_145 (gR rfl fun x145 => ?_)
                refine v_iload_n (i := 2) hc 4 rfl dX8_make_148 rfl ?_
                refine v_bipush (x := (6 : Int32)) hc dX8_make_149 zb_6 ?_
                refine v_aload_n (i := 0) hc 2 rfl dX8_make_151 rfl ?_
                refine v_getV hc kX8 0 (by decide) w_378 rfl dX8_make_152 (gR rfl fun x152 => ?_)
                refine v_getVN hc kX7 4 (by decide) w_191 rfl dX8_make_155 (gR rfl fun x155 => ?_)
                refine v_iload_n (i := 2) hc 4 rfl dX8_make_158 rfl ?_
                refine v_bipush (x := (6 : Int32)) hc dX8_make_159 zb_6 ?_
                refine v_cI hc (m_V' (As := [.int p1, .int (6 : Int32)]) (b := x155) (rest := [.int (6 : Int32), .int p1, .ref x145]) 2 hc hr (fun l D tys base => ct5_at l D tys base x137.2 x155 p1 (6 : Int32)) (fun x hx => ob5_at hx) rfl s5_at w_546 rfl ⟨Nat.le_of_ble_eq_true rfl, Nat.le_of_ble_eq_true rfl⟩ ⟨Nat.le_of_ble_eq_true rfl, Nat.le_of_ble_eq_true rfl⟩ (Nat.le_of_ble_eq_true rfl) dX8_make_161) fun x161 => ?_
                refine v_aload (i := 6) hc 1 rfl dX8_make_164 ?_
                refine v_getVN hc kX0 2 (by decide) w_364 rfl dX8_make_166 (gI rfl fun x166 => ?_)
                refine v_ior hc dX8_make_169 ?_
                refine v_cV hc (m_V' (As := [.int p1, .int (6 : Int32), .int (x161 ||| x166)]) (b := x145) (rest := []) 3 hc hr (fun l D tys base => ct5_put l D tys base x137.2 x145 p1 (6 : Int32) (x161 ||| x166)) (fun x hx => ob5_put hx) rfl s5_put w_440 rfl ⟨Nat.le_of_ble_eq_true rfl, Nat.le_of_ble_eq_true rfl⟩ ⟨Nat.le_of_ble_eq_true rfl, Nat.le_of_ble_eq_true rfl⟩ (Nat.le_of_ble_eq_true rfl) dX8_make_170) fun x170 => ?_
                refine v_iload (i := 7) hc 0 rfl dX8_make_173 ?_
                exact v_iret hc hq rfl rfl (Nat.le_of_ble_eq_true rfl) (Nat.le_of_ble_eq_true rfl) rfl dX8_make_175
              · refine v_iconst (x := (-1 : Int32)) hc dX8_make_122 zi_m1 ?_
                exact v_iret hc hq rfl rfl (Nat.le_of_ble_eq_true rfl) (Nat.le_of_ble_eq_true rfl) rfl dX8_make_123
            · refine v_iconst (x := (-1 : Int32)) hc dX8_make_83 zi_m1 ?_
              exact v_iret hc hq rfl rfl (Nat.le_of_ble_eq_true rfl) (Nat.le_of_ble_eq_true rfl) rfl dX8_make_84
          · refine v_iconst (x := (-1 : Int32)) hc dX8_make_55 zi_m1 ?_
            exact v_iret hc hq rfl rfl (Nat.le_of_ble_eq_true rfl) (Nat.le_of_ble_eq_true rfl) rfl dX8_make_56
      · refine v_iconst (x := (-1 : Int32)) hc dX8_make_31 zi_m1 ?_
        exact v_iret hc hq rfl rfl (Nat.le_of_ble_eq_true rfl) (Nat.le_of_ble_eq_true rfl) rfl dX8_make_32
theorem s8_make : YV yX8_make RX8 cX8_make 8 (some .int) 5 := ⟨w_993, w_991, w_992, w_108, rfl, by decide +kernel, by decide +kernel, by decide +kernel⟩
def f8_fillRow_23 (v0 : Nat) (v1 : Int32) : Nat → AH → Int32 → Option (AH)
  | 0, _, _ => none
  | n + 1, h, v4 => (fI 8 5 h v0).bind fun x26 => (if x26 ≤ v4 then some h else (fR 8 4 h v0).bind fun x35 => (aN h x35).bind fun x38 => (if x38 ≤ v4 then some h else (fR 8 4 h v0).bind fun x43 => (aQ 5 h x43 v4).bind fun x48 => (f8_hasBit h v1 v4).bind fun x54 => (if x54 = true then (oM x48 ((some (v4 + (1 : Int32))).bind fun x93 => f8_fillRow_23 v0 v1 n h x93) fun a62 => (fR 8 9 h v0).bind fun x66 => (fR 8 8 h v0).bind fun x74 => (f3_chanceBy h a62 x74).bind fun x77 => (fI 3 0 x77.2 a62).bind fun x82 => (fI 3 1 x77.2 a62).bind fun x87 => (f4_add x77.2 x66 v4 x77.1 x82 x87).bind fun x90 => (some (v4 + (1 : Int32))).bind fun x93 => f8_fillRow_23 v0 v1 n x90 x93) else (some (v4 + (1 : Int32))).bind fun x93 => f8_fillRow_23 v0 v1 n h x93)))
set_option maxRecDepth 100000 in
theorem vl8_fillRow_23 {κ : Kx} (hc : CX κ RX8 cX8_fillRow) (hr : RX κ ({ frames := 6, cells := 0, slots := 0, locals := 159 } : Room)) (hq : QX κ none 0 0) (hL : 6 = κ.2.2.2.2.1)  (v0 : Nat) (v1 : Int32) : ∀ n (h : AH) (v4 : Int32), V κ (wV) 0 0 23 [(0, .ref v0), (1, .int v1), (4, .int v4)] [] h (f8_fillRow_23 v0 v1 n h v4) := by
  have hn : ∀ i, i < 6 → i < κ.2.2.2.2.1 := fun i q => hL ▸ q
  intro n
  induction n with
  | zero => intros; exact v_none
  | succ n ih =>
    intro h v4
    rw [f8_fillRow_23.eq_2]
    refine v_iload (i := 4) hc 2 rfl dX8_fillRow_23 ?_
    refine v_aload_n (i := 0) hc 0 rfl dX8_fillRow_25 rfl ?_
    refine v_getV hc kX8 5 (by decide) w_383 rfl dX8_fillRow_26 (gI rfl fun x26 => ?_)
    refine v_icmp_ge hc 99 dX8_fillRow_29 rfl ?_ ?_
    · exact v_vret hc hq (Nat.le_of_ble_eq_true rfl) (Nat.le_of_ble_eq_true rfl) rfl dX8_fillRow_99
    · refine v_iload (i := 4) hc 2 rfl dX8_fillRow_32 ?_
      refine v_aload_n (i := 0) hc 0 rfl dX8_fillRow_34 rfl ?_
      refine v_getV hc kX8 4 (by decide) w_382 rfl dX8_fillRow_35 (gR rfl fun x35 => ?_)
      refine v_alen hc dX8_fillRow_38 fun x38 => ?_
      refine v_icmp_ge hc 99 dX8_fillRow_39 rfl ?_ ?_
      · exact v_vret hc hq (Nat.le_of_ble_eq_true rfl) (Nat.le_of_ble_eq_true rfl) rfl dX8_fillRow_99
      · refine v_aload_n (i := 0) hc 0 rfl dX8_fillRow_42 rfl ?_
        refine v_getV hc kX8 4 (by decide) w_382 rfl dX8_fillRow_43 (gR rfl fun x43 => ?_)
        refine v_iload (i := 4) hc 2 rfl dX8_fillRow_46 ?_
        refine v_aald 5 rfl hc dX8_fillRow_48 fun x48 => ?_
        refine v_astoreq (i := 5) (x := x48) (L' := [(5, va_rf x48), (0, .ref v0), (1, .int v1), (4, .int v4)]) hc dX8_fillRow_49 (hn 5 (Nat.le_of_ble_eq_true rfl)) rfl ?_
        refine v_iload_n (i := 1) hc 2 rfl dX8_fillRow_51 rfl ?_
        refine v_iload (i := 4) hc 3 rfl dX8_fillRow_52 ?_
        refine v_cB hc (m_S' (As := [.int v1, .int v4]) (rest := []) 2 hc hr (fun l D tys base => ct8_hasBit l D tys base h v1 v4) s8_hasBit w_888 rfl ⟨Nat.le_of_ble_eq_true rfl, Nat.le_of_ble_eq_true rfl⟩ ⟨Nat.le_of_ble_eq_true rfl, Nat.le_of_ble_eq_true rfl⟩ (Nat.le_of_ble_eq_true rfl) dX8_fillRow_54) fun x54 => ?_
        refine v_ifb_eq hc 93 dX8_fillRow_57 rfl ?_ ?_
        · refine v_iincN (i := 4) (y := (1 : Int32)) (L' := fun z => [(4, .int z), (5, va_rf x48), (0, .ref v0), (1, .int v1)]) hc 3 rfl dX8_fillRow_93 zi_1 (hn 4 (Nat.le_of_ble_eq_true rfl)) (fun _ => rfl) fun x93 => ?_
          refine v_goto hc 23 dX8_fillRow_96 rfl ?_
          refine v_sub (L' := [(0, .ref v0), (1, .int v1), (4, .int x93)]) [2, 3, 0] rfl ?_
          exact ih h x93
        · refine v_aloadq (i := 5) (x := x48) hc 0 rfl dX8_fillRow_60 ?_
          refine v_ifnull hc 93 dX8_fillRow_62 rfl ?_ ?_
          · intro hx62
            subst hx62
            refine v_iincN (i := 4) (y := (1 : Int32)) (L' := fun z => [(4, .int z), (5, .null), (0, .ref v0), (1, .int v1)]) hc 3 rfl dX8_fillRow_93 zi_1 (hn 4 (Nat.le_of_ble_eq_true rfl)) (fun _ => rfl) fun x93 => ?_
            refine v_goto hc 23 dX8_fillRow_96 rfl ?_
            refine v_sub (L' := [(0, .ref v0), (1, .int v1), (4, .int x93)]) [2, 3, 0] rfl ?_
            exact ih h x93
          · intro a62 hx62
            subst hx62
            refine v_aload_n (i := 0) hc 1 rfl dX8_fillRow_65 rfl ?_
            refine v_getV hc kX8 9 (by decide) w_387 rfl dX8_fillRow_66 (gR rfl fun x66 => ?_)
            refine v_iload (i := 4) hc 3 rfl dX8_fillRow_69 ?_
            refine v_aload (i := 5) hc 0 rfl dX8_fillRow_71 ?_
            refine v_aload_n (i := 0) hc 1 rfl dX8_fillRow_73 rfl ?_
            refine v_getV hc kX8 8 (by decide) w_386 rfl dX8_fillRow_74 (gR rfl fun x74 => ?_)
            refine v_cwI hc (m_V' (As := [.ref x74]) (b := a62) (rest := [.int v4, .ref x66]) 1 hc hr (fun l D tys base => ct3_chanceBy l D tys base h a62 x74) (fun x hx => ob3_chanceBy hx) rfl s3_chanceBy w_830 rfl ⟨Nat.le_of_ble_eq_true rfl, Nat.le_of_ble_eq_true rfl⟩ ⟨Nat.le_of_ble_eq_true rfl, Nat.le_of_ble_eq_true rfl⟩ (Nat.le_of_ble_eq_true rfl) dX8_fillRow_77) fun x77 => ?_
            refine v_aload (i := 5) hc 0 rfl dX8_fillRow_80 ?_
            refine v_getVN hc kX3 0 (by decide) w_335 rfl dX8_fillRow_82 (gI rfl fun x82 => ?_)
            refine v_aload (i := 5) hc 0 rfl dX8_fillRow_85 ?_
            refine v_getVN hc kX3 1 (by decide) w_337 rfl dX8_fillRow_87 (gI rfl fun x87 => ?_)
            refine v_cV hc (m_V' (As := [.int v4, .int x77.1, .int x82, .int x87]) (b := x66) (rest := []) 4 hc hr (fun l D tys base => ct4_add l D tys base x77.2 x66 v4 x77.1 x82 x87) (fun x hx => ob4_add hx) rfl s4_add w_1023 rfl ⟨Nat.le_of_ble_eq_true rfl, Nat.le_of_ble_eq_true rfl⟩ ⟨Nat.le_of_ble_eq_true rfl, Nat.le_of_ble_eq_true rfl⟩ (Nat.le_of_ble_eq_true rfl) dX8_fillRow_90) fun x90 => ?_
            refine v_iincN (i := 4) (y := (1 : Int32)) (L' := fun z => [(4, .int z), (5, .ref a62), (0, .ref v0), (1, .int v1)]) hc 3 rfl dX8_fillRow_93 zi_1 (hn 4 (Nat.le_of_ble_eq_true rfl)) (fun _ => rfl) fun x93 => ?_
            refine v_goto hc 23 dX8_fillRow_96 rfl ?_
            refine v_sub (L' := [(0, .ref v0), (1, .int v1), (4, .int x93)]) [2, 3, 0] rfl ?_
            exact ih x90 x93
def f8_fillRow (h : AH) (this : Nat) (p0 : Int32) (p1 : Int32) (p2 : Int32) : Option (AH) := (hObj 8 h this).bind fun _ => (fR 8 0 h this).bind fun x1 => (fR 8 8 h this).bind fun x5 => (f7_fillWords h x1 x5 p1 p2).bind fun x10 => (fR 8 9 x10 this).bind fun x14 => (f4_clear x10 x14).bind fun x17 => f8_fillRow_23 this p0 FU x17 (0 : Int32)
theorem ob8_fillRow {h : AH} {this : Nat} {p0 : Int32} {p1 : Int32} {p2 : Int32} {x : AH} (e : f8_fillRow h this p0 p1 p2 = some x) : ∃ fs, hObj 8 h this = some fs := by
  unfold f8_fillRow at e
  obtain ⟨fs, h1, -⟩ := bd e
  exact ⟨fs, h1⟩
set_option maxRecDepth 100000 in
theorem ct8_fillRow (l : Launch) (D : va_G) (tys : Tys) (base : Nat) (h : AH) (this : Nat) (p0 : Int32) (p1 : Int32) (p2 : Int32) : Ct l D tys base yX8_fillRow cX8_fillRow 6 none 6 159 0 0 [.ref this, .int p0, .int p1, .int p2] h (wV) (f8_fillRow h this p0 p1 p2) := by
  refine Ct.intro (own := RX8) (L := [(0, .ref this), (1, .int p0), (2, .int p1), (3, .int p2)]) rfl (by decide) rfl (Nat.le_of_ble_eq_true rfl) fun κ hc hr hq hi hL => ?_
  have hn : ∀ i, i < 6 → i < κ.2.2.2.2.1 := fun i q => hL ▸ q
  unfold f8_fillRow
  refine v_obj ?_
  refine v_aload_n (i := 0) hc 0 rfl dX8_fillRow_0 rfl ?_
  refine v_getV hc kX8 0 (by decide) w_378 rfl dX8_fillRow_1 (gR rfl fun x1 => ?_)
  refine v_aload_n (i := 0) hc 0 rfl dX8_fillRow_4 rfl ?_
  refine v_getV hc kX8 8 (by decide) w_386 rfl dX8_fillRow_5 (gR rfl fun x5 => ?_)
  refine v_iload_n (i := 2) hc 2 rfl dX8_fillRow_8 rfl ?_
  refine v_iload_n (i := 3) hc 3 rfl dX8_fillRow_9 rfl ?_
  refine v_cV hc (m_V' (As := [.ref x5, .int p1, .int p2]) (b := x1) (rest := []) 3 hc hr (fun l D tys base => ct7_fillWords l D tys base h x1 x5 p1 p2) (fun x hx => ob7_fillWords hx) rfl s7_fillWords w_802 rfl ⟨Nat.le_of_ble_eq_true rfl, Nat.le_of_ble_eq_true rfl⟩ ⟨Nat.le_of_ble_eq_true rfl, Nat.le_of_ble_eq_true rfl⟩ (Nat.le_of_ble_eq_true rfl) dX8_fillRow_10) fun x10 => ?_
  refine v_aload_n (i := 0) hc 0 rfl dX8_fillRow_13 rfl ?_
  refine v_getV hc kX8 9 (by decide) w_387 rfl dX8_fillRow_14 (gR rfl fun x14 => ?_)
  refine v_cV hc (m_V' (As := []) (b := x14) (rest := []) 0 hc hr (fun l D tys base => ct4_clear l D tys base x10 x14) (fun x hx => ob4_clear hx) rfl s4_clear w_1019 rfl ⟨Nat.le_of_ble_eq_true rfl, Nat.le_of_ble_eq_true rfl⟩ ⟨Nat.le_of_ble_eq_true rfl, Nat.le_of_ble_eq_true rfl⟩ (Nat.le_of_ble_eq_true rfl) dX8_fillRow_17) fun x17 => ?_
  refine v_iconst (x := (0 : Int32)) hc dX8_fillRow_20 zi_0 ?_
  refine v_istore (i := 4) (L' := [(4, .int (0 : Int32)), (0, .ref this), (1, .int p0), (2, .int p1), (3, .int p2)]) hc dX8_fillRow_21 (hn 4 (Nat.le_of_ble_eq_true rfl)) rfl ?_
  refine v_sub (L' := [(0, .ref this), (1, .int p0), (4, .int (0 : Int32))]) [1, 2, 0] rfl ?_
  exact vl8_fillRow_23 hc hr hq hL this p0 FU x17 (0 : Int32)
theorem s8_fillRow : YV yX8_fillRow RX8 cX8_fillRow 6 none 3 := ⟨w_1018, w_1017, w_40, w_108, rfl, by decide +kernel, by decide +kernel, by decide +kernel⟩
def f8_soonest (h : AH) (this : Nat) (p0 : Int32) (p1 : Int32) (p2 : Int32) (p3 : Int32) : Option (Int64 × AH) := (hObj 8 h this).bind fun _ => (fI 8 5 h this).bind fun x4 => (f8_isFrom h p0 (1 : Int32) (((1 : Int32) <<< (x4 &&& 31)) - (1 : Int32))).bind fun x10 => (if x10 = true then (fJ6_bitCount_0f7a4 h p0).bind fun x17 => (if x17 ≤ (6 : Int32) then (fR 8 0 h this).bind fun x30 => (f7_areUnlike h x30 p1 p2).bind fun x35 => (if x35 = true then (f8_isFrom h p3 (0 : Int32) (6 : Int32)).bind fun x46 => (if x46 = true then (f8_fillRow h this p0 p1 p2).bind fun x60 => (fR 8 9 x60 this).bind fun x64 => (f4_findLeastWaits x60 x64).bind fun x67 => (if p3 = (6 : Int32) then (fR 8 9 x67 this).bind fun x78 => (f4_leastWait x67 x78).bind fun x81 => some (x81, x67) else (fR 8 9 x67 this).bind fun x88 => (f4_readerInPlace x67 x88 p3).bind fun x93 => some (x93.toInt64, x67)) else some ((-1 : Int64), h)) else some ((-1 : Int64), h)) else some ((-1 : Int64), h)) else some ((-1 : Int64), h))
theorem ob8_soonest {h : AH} {this : Nat} {p0 : Int32} {p1 : Int32} {p2 : Int32} {p3 : Int32} {x : Int64 × AH} (e : f8_soonest h this p0 p1 p2 p3 = some x) : ∃ fs, hObj 8 h this = some fs := by
  unfold f8_soonest at e
  obtain ⟨fs, h1, -⟩ := bd e
  exact ⟨fs, h1⟩
set_option maxRecDepth 100000 in
theorem ct8_soonest (l : Launch) (D : va_G) (tys : Tys) (base : Nat) (h : AH) (this : Nat) (p0 : Int32) (p1 : Int32) (p2 : Int32) (p3 : Int32) : Ct l D tys base yX8_soonest cX8_soonest 5 (some .long) 7 184 0 0 [.ref this, .int p0, .int p1, .int p2, .int p3] h (wL) (f8_soonest h this p0 p1 p2 p3) := by
  refine Ct.intro (own := RX8) (L := [(0, .ref this), (1, .int p0), (2, .int p1), (3, .int p2), (4, .int p3)]) rfl (by decide) rfl (Nat.le_of_ble_eq_true rfl) fun κ hc hr hq hi hL => ?_
  have hn : ∀ i, i < 5 → i < κ.2.2.2.2.1 := fun i q => hL ▸ q
  unfold f8_soonest
  refine v_obj ?_
  refine v_iload_n (i := 1) hc 1 rfl dX8_soonest_0 rfl ?_
  refine v_iconst (x := (1 : Int32)) hc dX8_soonest_1 zi_1 ?_
  refine v_iconst (x := (1 : Int32)) hc dX8_soonest_2 zi_1 ?_
  refine v_aload_n (i := 0) hc 0 rfl dX8_soonest_3 rfl ?_
  refine v_getV hc kX8 5 (by decide) w_383 rfl dX8_soonest_4 (gI rfl fun x4 => ?_)
  refine v_ishl hc dX8_soonest_7 ?_
  refine v_iconst (x := (1 : Int32)) hc dX8_soonest_8 zi_1 ?_
  refine v_isub hc dX8_soonest_9 ?_
  refine v_cB hc (m_S' (As := [.int p0, .int (1 : Int32), .int (((1 : Int32) <<< (x4 &&& 31)) - (1 : Int32))]) (rest := []) 3 hc hr (fun l D tys base => ct8_isFrom l D tys base h p0 (1 : Int32) (((1 : Int32) <<< (x4 &&& 31)) - (1 : Int32))) s8_isFrom w_413 rfl ⟨Nat.le_of_ble_eq_true rfl, Nat.le_of_ble_eq_true rfl⟩ ⟨Nat.le_of_ble_eq_true rfl, Nat.le_of_ble_eq_true rfl⟩ (Nat.le_of_ble_eq_true rfl) dX8_soonest_10) fun x10 => ?_
  refine v_ifb_eq hc 25 dX8_soonest_13 rfl ?_ ?_
  · refine v_ldc2 (x := (-1 : Int64)) hc w_1014 dX8_soonest_25 ?_
    exact v_lret hc hq (Nat.le_of_ble_eq_true rfl) (Nat.le_of_ble_eq_true rfl) rfl dX8_soonest_28
  · refine v_iload_n (i := 1) hc 1 rfl dX8_soonest_16 rfl ?_
    refine v_cI hc (m_S' (As := [.int p0]) (rest := []) 1 hc hr (fun l D tys base => ctJ6_bitCount_0f7a4 l D tys base h p0) sJ6_bitCount_0f7a4 w_935 rfl ⟨Nat.le_of_ble_eq_true rfl, Nat.le_of_ble_eq_true rfl⟩ ⟨Nat.le_of_ble_eq_true rfl, Nat.le_of_ble_eq_true rfl⟩ (Nat.le_of_ble_eq_true rfl) dX8_soonest_17) fun x17 => ?_
    refine v_bipush (x := (6 : Int32)) hc dX8_soonest_20 zb_6 ?_
    refine v_icmp_le hc 29 dX8_soonest_22 rfl ?_ ?_
    · refine v_aload_n (i := 0) hc 0 rfl dX8_soonest_29 rfl ?_
      refine v_getV hc kX8 0 (by decide) w_378 rfl dX8_soonest_30 (gR rfl fun x30 => ?_)
      refine v_iload_n (i := 2) hc 2 rfl dX8_soonest_33 rfl ?_
      refine v_iload_n (i := 3) hc 3 rfl dX8_soonest_34 rfl ?_
      refine v_cB hc (m_V' (As := [.int p1, .int p2]) (b := x30) (rest := []) 2 hc hr (fun l D tys base => ct7_areUnlike l D tys base h x30 p1 p2) (fun x hx => ob7_areUnlike hx) rfl s7_areUnlike w_793 rfl ⟨Nat.le_of_ble_eq_true rfl, Nat.le_of_ble_eq_true rfl⟩ ⟨Nat.le_of_ble_eq_true rfl, Nat.le_of_ble_eq_true rfl⟩ (Nat.le_of_ble_eq_true rfl) dX8_soonest_35) fun x35 => ?_
      refine v_ifb_eq hc 52 dX8_soonest_38 rfl ?_ ?_
      · refine v_ldc2 (x := (-1 : Int64)) hc w_1014 dX8_soonest_52 ?_
        exact v_lret hc hq (Nat.le_of_ble_eq_true rfl) (Nat.le_of_ble_eq_true rfl) rfl dX8_soonest_55
      · refine v_iload (i := 4) hc 4 rfl dX8_soonest_41 ?_
        refine v_iconst (x := (0 : Int32)) hc dX8_soonest_43 zi_0 ?_
        refine v_bipush (x := (6 : Int32)) hc dX8_soonest_44 zb_6 ?_
        refine v_cB hc (m_S' (As := [.int p3, .int (0 : Int32), .int (6 : Int32)]) (rest := []) 3 hc hr (fun l D tys base => ct8_isFrom l D tys base h p3 (0 : Int32) (6 : Int32)) s8_isFrom w_413 rfl ⟨Nat.le_of_ble_eq_true rfl, Nat.le_of_ble_eq_true rfl⟩ ⟨Nat.le_of_ble_eq_true rfl, Nat.le_of_ble_eq_true rfl⟩ (Nat.le_of_ble_eq_true rfl) dX8_soonest_46) fun x46 => ?_
        refine v_ifb_ne hc 56 dX8_soonest_49 rfl ?_ ?_
        · refine v_aload_n (i := 0) hc 0 rfl dX8_soonest_56 rfl ?_
          refine v_iload_n (i := 1) hc 1 rfl dX8_soonest_57 rfl ?_
          refine v_iload_n (i := 2) hc 2 rfl dX8_soonest_58 rfl ?_
          refine v_iload_n (i := 3) hc 3 rfl dX8_soonest_59 rfl ?_
          refine v_cV hc (m_V' (As := [.int p0, .int p1, .int p2]) (b := this) (rest := []) 3 hc hr (fun l D tys base => ct8_fillRow l D tys base h this p0 p1 p2) (fun x hx => ob8_fillRow hx) rfl s8_fillRow w_1015 rfl ⟨Nat.le_of_ble_eq_true rfl, Nat.le_of_ble_eq_true rfl⟩ ⟨Nat.le_of_ble_eq_true rfl, Nat.le_of_ble_eq_true rfl⟩ (Nat.le_of_ble_eq_true rfl) dX8_soonest_60) fun x60 => ?_
          refine v_aload_n (i := 0) hc 0 rfl dX8_soonest_63 rfl ?_
          refine v_getV hc kX8 9 (by decide) w_387 rfl dX8_soonest_64 (gR rfl fun x64 => ?_)
          refine v_cV hc (m_V' (As := []) (b := x64) (rest := []) 0 hc hr (fun l D tys base => ct4_findLeastWaits l D tys base x60 x64) (fun x hx => ob4_findLeastWaits hx) rfl s4_findLeastWaits w_1027 rfl ⟨Nat.le_of_ble_eq_true rfl, Nat.le_of_ble_eq_true rfl⟩ ⟨Nat.le_of_ble_eq_true rfl, Nat.le_of_ble_eq_true rfl⟩ (Nat.le_of_ble_eq_true rfl) dX8_soonest_67) fun x67 => ?_
          refine v_iload (i := 4) hc 4 rfl dX8_soonest_70 ?_
          refine v_bipush (x := (6 : Int32)) hc dX8_soonest_72 zb_6 ?_
          refine v_icmp_ne hc 87 dX8_soonest_74 rfl ?_ ?_
          · refine v_aload_n (i := 0) hc 0 rfl dX8_soonest_87 rfl ?_
            refine v_getV hc kX8 9 (by decide) w_387 rfl dX8_soonest_88 (gR rfl fun x88 => ?_)
            refine v_iload (i := 4) hc 4 rfl dX8_soonest_91 ?_
            refine v_cI hc (m_V' (As := [.int p3]) (b := x88) (rest := []) 1 hc hr (fun l D tys base => ct4_readerInPlace l D tys base x67 x88 p3) (fun x hx => ob4_readerInPlace hx) rfl s4_readerInPlace w_1047 rfl ⟨Nat.le_of_ble_eq_true rfl, Nat.le_of_ble_eq_true rfl⟩ ⟨Nat.le_of_ble_eq_true rfl, Nat.le_of_ble_eq_true rfl⟩ (Nat.le_of_ble_eq_true rfl) dX8_soonest_93) fun x93 => ?_
            refine v_i2l hc dX8_soonest_96 ?_
            exact v_lret hc hq (Nat.le_of_ble_eq_true rfl) (Nat.le_of_ble_eq_true rfl) rfl dX8_soonest_97
          · refine v_aload_n (i := 0) hc 0 rfl dX8_soonest_77 rfl ?_
            refine v_getV hc kX8 9 (by decide) w_387 rfl dX8_soonest_78 (gR rfl fun x78 => ?_)
            refine v_cL hc (m_V' (As := []) (b := x78) (rest := []) 0 hc hr (fun l D tys base => ct4_leastWait l D tys base x67 x78) (fun x hx => ob4_leastWait hx) rfl s4_leastWait w_1043 rfl ⟨Nat.le_of_ble_eq_true rfl, Nat.le_of_ble_eq_true rfl⟩ ⟨Nat.le_of_ble_eq_true rfl, Nat.le_of_ble_eq_true rfl⟩ (Nat.le_of_ble_eq_true rfl) dX8_soonest_81) fun x81 => ?_
            refine v_goto hc 97 dX8_soonest_84 rfl ?_
            exact v_lret hc hq (Nat.le_of_ble_eq_true rfl) (Nat.le_of_ble_eq_true rfl) rfl dX8_soonest_97
        · refine v_ldc2 (x := (-1 : Int64)) hc w_1014 dX8_soonest_52 ?_
          exact v_lret hc hq (Nat.le_of_ble_eq_true rfl) (Nat.le_of_ble_eq_true rfl) rfl dX8_soonest_55
    · refine v_ldc2 (x := (-1 : Int64)) hc w_1014 dX8_soonest_25 ?_
      exact v_lret hc hq (Nat.le_of_ble_eq_true rfl) (Nat.le_of_ble_eq_true rfl) rfl dX8_soonest_28
theorem s8_soonest : YV yX8_soonest RX8 cX8_soonest 5 (some .long) 4 := ⟨w_1013, w_1011, w_1012, w_108, rfl, by decide +kernel, by decide +kernel, by decide +kernel⟩
def f8_surest (h : AH) (this : Nat) (p0 : Int32) (p1 : Int32) (p2 : Int32) : Option (Int32 × AH) := (hObj 8 h this).bind fun _ => (f8_isFrom h p0 (0 : Int32) (9999 : Int32)).bind fun x5 => (if x5 = true then (fR 8 0 h this).bind fun x12 => (f7_areUnlike h x12 p1 p2).bind fun x17 => (if x17 = true then (fI 8 5 h this).bind fun x26 => (some (if (6 : Int32) < x26 then (6 : Int32) else x26)).bind fun z31 => (f8_fillRow h this (((1 : Int32) <<< (z31 &&& 31)) - (1 : Int32)) p1 p2).bind fun x45 => (fR 8 9 x45 this).bind fun x49 => (f4_surestFor x45 x49 p0).bind fun x53 => some (x53, x45) else some ((-1 : Int32), h)) else some ((-1 : Int32), h))
theorem ob8_surest {h : AH} {this : Nat} {p0 : Int32} {p1 : Int32} {p2 : Int32} {x : Int32 × AH} (e : f8_surest h this p0 p1 p2 = some x) : ∃ fs, hObj 8 h this = some fs := by
  unfold f8_surest at e
  obtain ⟨fs, h1, -⟩ := bd e
  exact ⟨fs, h1⟩
set_option maxRecDepth 100000 in
theorem ct8_surest (l : Launch) (D : va_G) (tys : Tys) (base : Nat) (h : AH) (this : Nat) (p0 : Int32) (p1 : Int32) (p2 : Int32) : Ct l D tys base yX8_surest cX8_surest 5 (some .int) 7 184 0 0 [.ref this, .int p0, .int p1, .int p2] h (wI) (f8_surest h this p0 p1 p2) := by
  refine Ct.intro (own := RX8) (L := [(0, .ref this), (1, .int p0), (2, .int p1), (3, .int p2)]) rfl (by decide) rfl (Nat.le_of_ble_eq_true rfl) fun κ hc hr hq hi hL => ?_
  have hn : ∀ i, i < 5 → i < κ.2.2.2.2.1 := fun i q => hL ▸ q
  unfold f8_surest
  refine v_obj ?_
  refine v_iload_n (i := 1) hc 1 rfl dX8_surest_0 rfl ?_
  refine v_iconst (x := (0 : Int32)) hc dX8_surest_1 zi_0 ?_
  refine v_sipush (x := (9999 : Int32)) hc dX8_surest_2 zs_9999 ?_
  refine v_cB hc (m_S' (As := [.int p0, .int (0 : Int32), .int (9999 : Int32)]) (rest := []) 3 hc hr (fun l D tys base => ct8_isFrom l D tys base h p0 (0 : Int32) (9999 : Int32)) s8_isFrom w_413 rfl ⟨Nat.le_of_ble_eq_true rfl, Nat.le_of_ble_eq_true rfl⟩ ⟨Nat.le_of_ble_eq_true rfl, Nat.le_of_ble_eq_true rfl⟩ (Nat.le_of_ble_eq_true rfl) dX8_surest_5) fun x5 => ?_
  refine v_ifb_eq hc 23 dX8_surest_8 rfl ?_ ?_
  · refine v_iconst (x := (-1 : Int32)) hc dX8_surest_23 zi_m1 ?_
    exact v_iret hc hq rfl rfl (Nat.le_of_ble_eq_true rfl) (Nat.le_of_ble_eq_true rfl) rfl dX8_surest_24
  · refine v_aload_n (i := 0) hc 0 rfl dX8_surest_11 rfl ?_
    refine v_getV hc kX8 0 (by decide) w_378 rfl dX8_surest_12 (gR rfl fun x12 => ?_)
    refine v_iload_n (i := 2) hc 2 rfl dX8_surest_15 rfl ?_
    refine v_iload_n (i := 3) hc 3 rfl dX8_surest_16 rfl ?_
    refine v_cB hc (m_V' (As := [.int p1, .int p2]) (b := x12) (rest := []) 2 hc hr (fun l D tys base => ct7_areUnlike l D tys base h x12 p1 p2) (fun x hx => ob7_areUnlike hx) rfl s7_areUnlike w_793 rfl ⟨Nat.le_of_ble_eq_true rfl, Nat.le_of_ble_eq_true rfl⟩ ⟨Nat.le_of_ble_eq_true rfl, Nat.le_of_ble_eq_true rfl⟩ (Nat.le_of_ble_eq_true rfl) dX8_surest_17) fun x17 => ?_
    refine v_ifb_ne hc 25 dX8_surest_20 rfl ?_ ?_
    · refine v_aload_n (i := 0) hc 0 rfl dX8_surest_25 rfl ?_
      refine v_getV hc kX8 5 (by decide) w_383 rfl dX8_surest_26 (gI rfl fun x26 => ?_)
      refine v_bipush (x := (6 : Int32)) hc dX8_surest_29 zb_6 ?_
      refine v_mmin hc hr w_792 w_454 w_111 w_455 (Nat.le_of_ble_eq_true rfl) (Nat.le_of_ble_eq_true rfl) (Nat.le_of_ble_eq_true rfl) (Nat.le_of_ble_eq_true rfl) dX8_surest_31 (v_nmI fun z31 => ?_)
      refine v_istore (i := 4) (L' := [(4, .int z31), (0, .ref this), (1, .int p0), (2, .int p1), (3, .int p2)]) hc dX8_surest_34 (hn 4 (Nat.le_of_ble_eq_true rfl)) rfl ?_
      refine v_aload_n (i := 0) hc 1 rfl dX8_surest_36 rfl ?_
      refine v_iconst (x := (1 : Int32)) hc dX8_surest_37 zi_1 ?_
      refine v_iload (i := 4) hc 0 rfl dX8_surest_38 ?_
      refine v_ishl hc dX8_surest_40 ?_
      refine v_iconst (x := (1 : Int32)) hc dX8_surest_41 zi_1 ?_
      refine v_isub hc dX8_surest_42 ?_
      refine v_iload_n (i := 2) hc 3 rfl dX8_surest_43 rfl ?_
      refine v_iload_n (i := 3) hc 4 rfl dX8_surest_44 rfl ?_
      refine v_cV hc (m_V' (As := [.int (((1 : Int32) <<< (z31 &&& 31)) - (1 : Int32)), .int p1, .int p2]) (b := this) (rest := []) 3 hc hr (fun l D tys base => ct8_fillRow l D tys base h this (((1 : Int32) <<< (z31 &&& 31)) - (1 : Int32)) p1 p2) (fun x hx => ob8_fillRow hx) rfl s8_fillRow w_1015 rfl ⟨Nat.le_of_ble_eq_true rfl, Nat.le_of_ble_eq_true rfl⟩ ⟨Nat.le_of_ble_eq_true rfl, Nat.le_of_ble_eq_true rfl⟩ (Nat.le_of_ble_eq_true rfl) dX8_surest_45) fun x45 => ?_
      refine v_aload_n (i := 0) hc 1 rfl dX8_surest_48 rfl ?_
      refine v_getV hc kX8 9 (by decide) w_387 rfl dX8_surest_49 (gR rfl fun x49 => ?_)
      refine v_iload_n (i := 1) hc 2 rfl dX8_surest_52 rfl ?_
      refine v_cI hc (m_V' (As := [.int p0]) (b := x49) (rest := []) 1 hc hr (fun l D tys base => ct4_surestFor l D tys base x45 x49 p0) (fun x hx => ob4_surestFor hx) rfl s4_surestFor w_1059 rfl ⟨Nat.le_of_ble_eq_true rfl, Nat.le_of_ble_eq_true rfl⟩ ⟨Nat.le_of_ble_eq_true rfl, Nat.le_of_ble_eq_true rfl⟩ (Nat.le_of_ble_eq_true rfl) dX8_surest_53) fun x53 => ?_
      exact v_iret hc hq rfl rfl (Nat.le_of_ble_eq_true rfl) (Nat.le_of_ble_eq_true rfl) rfl dX8_surest_56
    · refine v_iconst (x := (-1 : Int32)) hc dX8_surest_23 zi_m1 ?_
      exact v_iret hc hq rfl rfl (Nat.le_of_ble_eq_true rfl) (Nat.le_of_ble_eq_true rfl) rfl dX8_surest_24
theorem s8_surest : YV yX8_surest RX8 cX8_surest 5 (some .int) 3 := ⟨w_1058, w_1056, w_1057, w_108, rfl, by decide +kernel, by decide +kernel, by decide +kernel⟩
def f8_person (h : AH) (this : Nat) (p0 : Int32) (p1 : Int32) (p2 : Int32) (p3 : Int32) : Option (Int32 × AH) := (hObj 8 h this).bind fun _ => (f8_isFrom h p0 (0 : Int32) (9999 : Int32)).bind fun x5 => (if x5 = true then (f8_isFrom h p1 p0 (9999 : Int32)).bind fun x16 => (if x16 = true then (f8_isFrom h p2 (0 : Int32) (999 : Int32)).bind fun x29 => (if x29 = true then (f8_isFrom h p3 (0 : Int32) (519 : Int32)).bind fun x41 => (if x41 = true then (fR 8 0 h this).bind fun x50 => (fR 7 8 h x50).bind fun x53 => (f5_addRow h x53).bind fun x56 => (fR 8 0 x56.2 this).bind fun x62 => (fR 7 8 x56.2 x62).bind fun x65 => (f5_put x56.2 x65 x56.1 (0 : Int32) p0).bind fun x72 => (fR 8 0 x72 this).bind fun x76 => (fR 7 8 x72 x76).bind fun x79 => (f5_put x72 x79 x56.1 (1 : Int32) p1).bind fun x86 => (fR 8 0 x86 this).bind fun x90 => (fR 7 8 x86 x90).bind fun x93 => (f5_put x86 x93 x56.1 (2 : Int32) p2).bind fun x100 => (fR 8 0 x100 this).bind fun x104 => (fR 7 8 x100 x104).bind fun x107 => (f5_put x100 x107 x56.1 (3 : Int32) p3).bind fun x115 => (fR 8 0 x115 this).bind fun x119 => (fR 7 8 x115 x119).bind fun x122 => (f5_put x115 x122 x56.1 (4 : Int32) (-1 : Int32)).bind fun x129 => some (x56.1, x129) else some ((-1 : Int32), h)) else some ((-1 : Int32), h)) else some ((-1 : Int32), h)) else some ((-1 : Int32), h))
theorem ob8_person {h : AH} {this : Nat} {p0 : Int32} {p1 : Int32} {p2 : Int32} {p3 : Int32} {x : Int32 × AH} (e : f8_person h this p0 p1 p2 p3 = some x) : ∃ fs, hObj 8 h this = some fs := by
  unfold f8_person at e
  obtain ⟨fs, h1, -⟩ := bd e
  exact ⟨fs, h1⟩
set_option maxRecDepth 100000 in
theorem ct8_person (l : Launch) (D : va_G) (tys : Tys) (base : Nat) (h : AH) (this : Nat) (p0 : Int32) (p1 : Int32) (p2 : Int32) (p3 : Int32) : Ct l D tys base yX8_person cX8_person 6 (some .int) 4 88 0 0 [.ref this, .int p0, .int p1, .int p2, .int p3] h (wI) (f8_person h this p0 p1 p2 p3) := by
  refine Ct.intro (own := RX8) (L := [(0, .ref this), (1, .int p0), (2, .int p1), (3, .int p2), (4, .int p3)]) rfl (by decide) rfl (Nat.le_of_ble_eq_true rfl) fun κ hc hr hq hi hL => ?_
  have hn : ∀ i, i < 6 → i < κ.2.2.2.2.1 := fun i q => hL ▸ q
  unfold f8_person
  refine v_obj ?_
  refine v_iload_n (i := 1) hc 1 rfl dX8_person_0 rfl ?_
  refine v_iconst (x := (0 : Int32)) hc dX8_person_1 zi_0 ?_
  refine v_sipush (x := (9999 : Int32)) hc dX8_person_2 zs_9999 ?_
  refine v_cB hc (m_S' (As := [.int p0, .int (0 : Int32), .int (9999 : Int32)]) (rest := []) 3 hc hr (fun l D tys base => ct8_isFrom l D tys base h p0 (0 : Int32) (9999 : Int32)) s8_isFrom w_413 rfl ⟨Nat.le_of_ble_eq_true rfl, Nat.le_of_ble_eq_true rfl⟩ ⟨Nat.le_of_ble_eq_true rfl, Nat.le_of_ble_eq_true rfl⟩ (Nat.le_of_ble_eq_true rfl) dX8_person_5) fun x5 => ?_
  refine v_ifb_eq hc 22 dX8_person_8 rfl ?_ ?_
  · refine v_iconst (x := (-1 : Int32)) hc dX8_person_22 zi_m1 ?_
    exact v_iret hc hq rfl rfl (Nat.le_of_ble_eq_true rfl) (Nat.le_of_ble_eq_true rfl) rfl dX8_person_23
  · refine v_iload_n (i := 2) hc 2 rfl dX8_person_11 rfl ?_
    refine v_iload_n (i := 1) hc 1 rfl dX8_person_12 rfl ?_
    refine v_sipush (x := (9999 : Int32)) hc dX8_person_13 zs_9999 ?_
    refine v_cB hc (m_S' (As := [.int p1, .int p0, .int (9999 : Int32)]) (rest := []) 3 hc hr (fun l D tys base => ct8_isFrom l D tys base h p1 p0 (9999 : Int32)) s8_isFrom w_413 rfl ⟨Nat.le_of_ble_eq_true rfl, Nat.le_of_ble_eq_true rfl⟩ ⟨Nat.le_of_ble_eq_true rfl, Nat.le_of_ble_eq_true rfl⟩ (Nat.le_of_ble_eq_true rfl) dX8_person_16) fun x16 => ?_
    refine v_ifb_ne hc 24 dX8_person_19 rfl ?_ ?_
    · refine v_iload_n (i := 3) hc 3 rfl dX8_person_24 rfl ?_
      refine v_iconst (x := (0 : Int32)) hc dX8_person_25 zi_0 ?_
      refine v_sipush (x := (999 : Int32)) hc dX8_person_26 zs_999 ?_
      refine v_cB hc (m_S' (As := [.int p2, .int (0 : Int32), .int (999 : Int32)]) (rest := []) 3 hc hr (fun l D tys base => ct8_isFrom l D tys base h p2 (0 : Int32) (999 : Int32)) s8_isFrom w_413 rfl ⟨Nat.le_of_ble_eq_true rfl, Nat.le_of_ble_eq_true rfl⟩ ⟨Nat.le_of_ble_eq_true rfl, Nat.le_of_ble_eq_true rfl⟩ (Nat.le_of_ble_eq_true rfl) dX8_person_29) fun x29 => ?_
      refine v_ifb_eq hc 47 dX8_person_32 rfl ?_ ?_
      · refine v_iconst (x := (-1 : Int32)) hc dX8_person_47 zi_m1 ?_
        exact v_iret hc hq rfl rfl (Nat.le_of_ble_eq_true rfl) (Nat.le_of_ble_eq_true rfl) rfl dX8_person_48
      · refine v_iload (i := 4) hc 4 rfl dX8_person_35 ?_
        refine v_iconst (x := (0 : Int32)) hc dX8_person_37 zi_0 ?_
        refine v_sipush (x := (519 : Int32)) hc dX8_person_38 zs_519 ?_
        refine v_cB hc (m_S' (As := [.int p3, .int (0 : Int32), .int (519 : Int32)]) (rest := []) 3 hc hr (fun l D tys base => ct8_isFrom l D tys base h p3 (0 : Int32) (519 : Int32)) s8_isFrom w_413 rfl ⟨Nat.le_of_ble_eq_true rfl, Nat.le_of_ble_eq_true rfl⟩ ⟨Nat.le_of_ble_eq_true rfl, Nat.le_of_ble_eq_true rfl⟩ (Nat.le_of_ble_eq_true rfl) dX8_person_41) fun x41 => ?_
        refine v_ifb_ne hc 49 dX8_person_44 rfl ?_ ?_
        · refine v_aload_n (i := 0) hc 0 rfl dX8_person_49 rfl ?_
          refine v_getV hc kX8 0 (by decide) w_378 rfl dX8_person_50 (gR rfl fun x50 => ?_)
          refine v_getVN hc kX7 8 (by decide) w_200 rfl dX8_person_53 (gR rfl fun x53 => ?_)
          refine v_cwI hc (m_V' (As := []) (b := x53) (rest := []) 0 hc hr (fun l D tys base => ct5_addRow l D tys base h x53) (fun x hx => ob5_addRow hx) rfl s5_addRow w_420 rfl ⟨Nat.le_of_ble_eq_true rfl, Nat.le_of_ble_eq_true rfl⟩ ⟨Nat.le_of_ble_eq_true rfl, Nat.le_of_ble_eq_true rfl⟩ (Nat.le_of_ble_eq_true rfl) dX8_person_56) fun x56 => ?_
          refine v_istore (i := 5) (L' := [(5, .int x56.1), (0, .ref this), (1, .int p0), (2, .int p1), (3, .int p2), (4, .int p3)]) hc dX8_person_59 (hn 5 (Nat.le_of_ble_eq_true rfl)) rfl ?_
          refine v_aload_n (i := 0) hc 1 rfl dX8_person_61 rfl ?_
          refine v_getV hc kX8 0 (by decide) w_378 rfl dX8_person_62 (gR rfl fun x62 => ?_)
          refine v_getVN hc kX7 8 (by decide) w_200 rfl dX8_person_65 (gR rfl fun x65 => ?_)
          refine v_iload (i := 5) hc 0 rfl dX8_person_68 ?_
          refine v_iconst (x := (0 : Int32)) hc dX8_person_70 zi_0 ?_
          refine v_iload_n (i := 1) hc 2 rfl dX8_person_71 rfl ?_
          refine v_cV hc (m_V' (As := [.int x56.1, .int (0 : Int32), .int p0]) (b := x65) (rest := []) 3 hc hr (fun l D tys base => ct5_put l D tys base x56.2 x65 x56.1 (0 : Int32) p0) (fun x hx => ob5_put hx) rfl s5_put w_440 rfl ⟨Nat.le_of_ble_eq_true rfl, Nat.le_of_ble_eq_true rfl⟩ ⟨Nat.le_of_ble_eq_true rfl, Nat.le_of_ble_eq_true rfl⟩ (Nat.le_of_ble_eq_true rfl) dX8_person_72) fun x72 => ?_
          refine v_aload_n (i := 0) hc 1 rfl dX8_person_75 rfl ?_
          refine v_getV hc kX8 0 (by decide) w_378 rfl dX8_person_76 (gR rfl fun x76 => ?_)
          refine v_getVN hc kX7 8 (by decide) w_200 rfl dX8_person_79 (gR rfl fun x79 => ?_)
          refine v_iload (i := 5) hc 0 rfl dX8_person_82 ?_
          refine v_iconst (x := (1 : Int32)) hc dX8_person_84 zi_1 ?_
          refine v_iload_n (i := 2) hc 3 rfl dX8_person_85 rfl ?_
          refine v_cV hc (m_V' (As := [.int x56.1, .int (1 : Int32), .int p1]) (b := x79) (rest := []) 3 hc hr (fun l D tys base => ct5_put l D tys base x72 x79 x56.1 (1 : Int32) p1) (fun x hx => ob5_put hx) rfl s5_put w_440 rfl ⟨Nat.le_of_ble_eq_true rfl, Nat.le_of_ble_eq_true rfl⟩ ⟨Nat.le_of_ble_eq_true rfl, Nat.le_of_ble_eq_true rfl⟩ (Nat.le_of_ble_eq_true rfl) dX8_person_86) fun x86 => ?_
          refine v_aload_n (i := 0) hc 1 rfl dX8_person_89 rfl ?_
          refine v_getV hc kX8 0 (by decide) w_378 rfl dX8_person_90 (gR rfl fun x90 => ?_)
          refine v_getVN hc kX7 8 (by decide) w_200 rfl dX8_person_93 (gR rfl fun x93 => ?_)
          refine v_iload (i := 5) hc 0 rfl dX8_person_96 ?_
          refine v_iconst (x := (2 : Int32)) hc dX8_person_98 zi_2 ?_
          refine v_iload_n (i := 3) hc 4 rfl dX8_person_99 rfl ?_
          refine v_cV hc (m_V' (As := [.int x56.1, .int (2 : Int32), .int p2]) (b := x93) (rest := []) 3 hc hr (fun l D tys base => ct5_put l D tys base x86 x93 x56.1 (2 : Int32) p2) (fun x hx => ob5_put hx) rfl s5_put w_440 rfl ⟨Nat.le_of_ble_eq_true rfl, Nat.le_of_ble_eq_true rfl⟩ ⟨Nat.le_of_ble_eq_true rfl, Nat.le_of_ble_eq_true rfl⟩ (Nat.le_of_ble_eq_true rfl) dX8_person_100) fun x100 => ?_
          refine v_aload_n (i := 0) hc 1 rfl dX8_person_103 rfl ?_
          refine v_getV hc kX8 0 (by decide) w_378 rfl dX8_person_104 (gR rfl fun x104 => ?_)
          refine v_getVN hc kX7 8 (by decide) w_200 rfl dX8_person_107 (gR rfl fun x107 => ?_)
          refine v_iload (i := 5) hc 0 rfl dX8_person_110 ?_
          refine v_iconst (x := (3 : Int32)) hc dX8_person_112 zi_3 ?_
          refine v_iload (i := 4) hc 5 rfl dX8_person_113 ?_
          refine v_cV hc (m_V' (As := [.int x56.1, .int (3 : Int32), .int p3]) (b := x107) (rest := []) 3 hc hr (fun l D tys base => ct5_put l D tys base x100 x107 x56.1 (3 : Int32) p3) (fun x hx => ob5_put hx) rfl s5_put w_440 rfl ⟨Nat.le_of_ble_eq_true rfl, Nat.le_of_ble_eq_true rfl⟩ ⟨Nat.le_of_ble_eq_true rfl, Nat.le_of_ble_eq_true rfl⟩ (Nat.le_of_ble_eq_true rfl) dX8_person_115) fun x115 => ?_
          refine v_aload_n (i := 0) hc 1 rfl dX8_person_118 rfl ?_
          refine v_getV hc kX8 0 (by decide) w_378 rfl dX8_person_119 (gR rfl fun x119 => ?_)
          refine v_getVN hc kX7 8 (by decide) w_200 rfl dX8_person_122 (gR rfl fun x122 => ?_)
          refine v_iload (i := 5) hc 0 rfl dX8_person_125 ?_
          refine v_iconst (x := (4 : Int32)) hc dX8_person_127 zi_4 ?_
          refine v_iconst (x := (-1 : Int32)) hc dX8_person_128 zi_m1 ?_
          refine v_cV hc (m_V' (As := [.int x56.1, .int (4 : Int32), .int (-1 : Int32)]) (b := x122) (rest := []) 3 hc hr (fun l D tys base => ct5_put l D tys base x115 x122 x56.1 (4 : Int32) (-1 : Int32)) (fun x hx => ob5_put hx) rfl s5_put w_440 rfl ⟨Nat.le_of_ble_eq_true rfl, Nat.le_of_ble_eq_true rfl⟩ ⟨Nat.le_of_ble_eq_true rfl, Nat.le_of_ble_eq_true rfl⟩ (Nat.le_of_ble_eq_true rfl) dX8_person_129) fun x129 => ?_
          refine v_iload (i := 5) hc 0 rfl dX8_person_132 ?_
          exact v_iret hc hq rfl rfl (Nat.le_of_ble_eq_true rfl) (Nat.le_of_ble_eq_true rfl) rfl dX8_person_134
        · refine v_iconst (x := (-1 : Int32)) hc dX8_person_47 zi_m1 ?_
          exact v_iret hc hq rfl rfl (Nat.le_of_ble_eq_true rfl) (Nat.le_of_ble_eq_true rfl) rfl dX8_person_48
    · refine v_iconst (x := (-1 : Int32)) hc dX8_person_22 zi_m1 ?_
      exact v_iret hc hq rfl rfl (Nat.le_of_ble_eq_true rfl) (Nat.le_of_ble_eq_true rfl) rfl dX8_person_23
theorem s8_person : YV yX8_person RX8 cX8_person 6 (some .int) 4 := ⟨w_1074, w_1072, w_1073, w_108, rfl, by decide +kernel, by decide +kernel, by decide +kernel⟩
def f8_ask (h : AH) (this : Nat) (p0 : Int32) : Option (Bool × AH) := (hObj 8 h this).bind fun _ => (fR 8 0 h this).bind fun x1 => (fR 7 8 h x1).bind fun x4 => (f5_has h x4 p0).bind fun x8 => (if x8 = true then (fR 8 0 h this).bind fun x15 => (fR 7 8 h x15).bind fun x18 => (f5_at h x18 p0 (4 : Int32)).bind fun x23 => (if x23 = (-1 : Int32) then (fR 8 0 h this).bind fun x33 => (fR 7 8 h x33).bind fun x36 => (fR 8 0 h this).bind fun x42 => (fI 7 0 h x42).bind fun x45 => (f5_put h x36 p0 (4 : Int32) x45).bind fun x48 => some (true, x48) else some (false, h)) else some (false, h))
theorem ob8_ask {h : AH} {this : Nat} {p0 : Int32} {x : Bool × AH} (e : f8_ask h this p0 = some x) : ∃ fs, hObj 8 h this = some fs := by
  unfold f8_ask at e
  obtain ⟨fs, h1, -⟩ := bd e
  exact ⟨fs, h1⟩
set_option maxRecDepth 100000 in
theorem ct8_ask (l : Launch) (D : va_G) (tys : Tys) (base : Nat) (h : AH) (this : Nat) (p0 : Int32) : Ct l D tys base yX8_ask cX8_ask 2 (some .boolean) 3 67 0 0 [.ref this, .int p0] h (wB) (f8_ask h this p0) := by
  refine Ct.intro (own := RX8) (L := [(0, .ref this), (1, .int p0)]) rfl (by decide) rfl (Nat.le_of_ble_eq_true rfl) fun κ hc hr hq hi hL => ?_
  have hn : ∀ i, i < 2 → i < κ.2.2.2.2.1 := fun i q => hL ▸ q
  unfold f8_ask
  refine v_obj ?_
  refine v_aload_n (i := 0) hc 0 rfl dX8_ask_0 rfl ?_
  refine v_getV hc kX8 0 (by decide) w_378 rfl dX8_ask_1 (gR rfl fun x1 => ?_)
  refine v_getVN hc kX7 8 (by decide) w_200 rfl dX8_ask_4 (gR rfl fun x4 => ?_)
  refine v_iload_n (i := 1) hc 1 rfl dX8_ask_7 rfl ?_
  refine v_cB hc (m_V' (As := [.int p0]) (b := x4) (rest := []) 1 hc hr (fun l D tys base => ct5_has l D tys base h x4 p0) (fun x hx => ob5_has hx) rfl s5_has w_482 rfl ⟨Nat.le_of_ble_eq_true rfl, Nat.le_of_ble_eq_true rfl⟩ ⟨Nat.le_of_ble_eq_true rfl, Nat.le_of_ble_eq_true rfl⟩ (Nat.le_of_ble_eq_true rfl) dX8_ask_8) fun x8 => ?_
  refine v_ifb_eq hc 30 dX8_ask_11 rfl ?_ ?_
  · refine v_iconst (x := (0 : Int32)) hc dX8_ask_30 zi_0 ?_
    exact v_iret (v := bI false) hc hq rfl (nar_b false) (Nat.le_of_ble_eq_true rfl) (Nat.le_of_ble_eq_true rfl) rfl dX8_ask_31
  · refine v_aload_n (i := 0) hc 0 rfl dX8_ask_14 rfl ?_
    refine v_getV hc kX8 0 (by decide) w_378 rfl dX8_ask_15 (gR rfl fun x15 => ?_)
    refine v_getVN hc kX7 8 (by decide) w_200 rfl dX8_ask_18 (gR rfl fun x18 => ?_)
    refine v_iload_n (i := 1) hc 1 rfl dX8_ask_21 rfl ?_
    refine v_iconst (x := (4 : Int32)) hc dX8_ask_22 zi_4 ?_
    refine v_cI hc (m_V' (As := [.int p0, .int (4 : Int32)]) (b := x18) (rest := []) 2 hc hr (fun l D tys base => ct5_at l D tys base h x18 p0 (4 : Int32)) (fun x hx => ob5_at hx) rfl s5_at w_546 rfl ⟨Nat.le_of_ble_eq_true rfl, Nat.le_of_ble_eq_true rfl⟩ ⟨Nat.le_of_ble_eq_true rfl, Nat.le_of_ble_eq_true rfl⟩ (Nat.le_of_ble_eq_true rfl) dX8_ask_23) fun x23 => ?_
    refine v_iconst (x := (-1 : Int32)) hc dX8_ask_26 zi_m1 ?_
    refine v_icmp_eq hc 32 dX8_ask_27 rfl ?_ ?_
    · refine v_aload_n (i := 0) hc 0 rfl dX8_ask_32 rfl ?_
      refine v_getV hc kX8 0 (by decide) w_378 rfl dX8_ask_33 (gR rfl fun x33 => ?_)
      refine v_getVN hc kX7 8 (by decide) w_200 rfl dX8_ask_36 (gR rfl fun x36 => ?_)
      refine v_iload_n (i := 1) hc 1 rfl dX8_ask_39 rfl ?_
      refine v_iconst (x := (4 : Int32)) hc dX8_ask_40 zi_4 ?_
      refine v_aload_n (i := 0) hc 0 rfl dX8_ask_41 rfl ?_
      refine v_getV hc kX8 0 (by decide) w_378 rfl dX8_ask_42 (gR rfl fun x42 => ?_)
      refine v_getVN hc kX7 0 (by decide) w_180 rfl dX8_ask_45 (gI rfl fun x45 => ?_)
      refine v_cV hc (m_V' (As := [.int p0, .int (4 : Int32), .int x45]) (b := x36) (rest := []) 3 hc hr (fun l D tys base => ct5_put l D tys base h x36 p0 (4 : Int32) x45) (fun x hx => ob5_put hx) rfl s5_put w_440 rfl ⟨Nat.le_of_ble_eq_true rfl, Nat.le_of_ble_eq_true rfl⟩ ⟨Nat.le_of_ble_eq_true rfl, Nat.le_of_ble_eq_true rfl⟩ (Nat.le_of_ble_eq_true rfl) dX8_ask_48) fun x48 => ?_
      refine v_iconst (x := (1 : Int32)) hc dX8_ask_51 zi_1 ?_
      exact v_iret (v := bI true) hc hq rfl (nar_b true) (Nat.le_of_ble_eq_true rfl) (Nat.le_of_ble_eq_true rfl) rfl dX8_ask_52
    · refine v_iconst (x := (0 : Int32)) hc dX8_ask_30 zi_0 ?_
      exact v_iret (v := bI false) hc hq rfl (nar_b false) (Nat.le_of_ble_eq_true rfl) (Nat.le_of_ble_eq_true rfl) rfl dX8_ask_31
theorem s8_ask : YV yX8_ask RX8 cX8_ask 2 (some .boolean) 1 := ⟨w_1078, w_1076, w_1077, w_108, rfl, by decide +kernel, by decide +kernel, by decide +kernel⟩
def f8_unasked (h : AH) (this : Nat) (p0 : Int32) (p1 : Int32) : Option (Int32) := (hObj 8 h this).bind fun _ => (fR 8 0 h this).bind fun x1 => (fR 7 4 h x1).bind fun x4 => (f5_has h x4 p0).bind fun x8 => (if x8 = true then (f8_isFrom h p1 (0 : Int32) (519 : Int32)).bind fun x19 => (if x19 = true then (fR 8 0 h this).bind fun x28 => (f7_unaskedUpTo h x28 p0 p1).bind fun x33 => some x33 else some (-1 : Int32)) else some (-1 : Int32))
theorem ob8_unasked {h : AH} {this : Nat} {p0 : Int32} {p1 : Int32} {x : Int32} (e : f8_unasked h this p0 p1 = some x) : ∃ fs, hObj 8 h this = some fs := by
  unfold f8_unasked at e
  obtain ⟨fs, h1, -⟩ := bd e
  exact ⟨fs, h1⟩
set_option maxRecDepth 100000 in
theorem ct8_unasked (l : Launch) (D : va_G) (tys : Tys) (base : Nat) (h : AH) (this : Nat) (p0 : Int32) (p1 : Int32) : Ct l D tys base yX8_unasked cX8_unasked 3 (some .int) 6 160 0 0 [.ref this, .int p0, .int p1] h (rI h) (f8_unasked h this p0 p1) := by
  refine Ct.intro (own := RX8) (L := [(0, .ref this), (1, .int p0), (2, .int p1)]) rfl (by decide) rfl (Nat.le_of_ble_eq_true rfl) fun κ hc hr hq hi hL => ?_
  have hn : ∀ i, i < 3 → i < κ.2.2.2.2.1 := fun i q => hL ▸ q
  unfold f8_unasked
  refine v_obj ?_
  refine v_aload_n (i := 0) hc 0 rfl dX8_unasked_0 rfl ?_
  refine v_getV hc kX8 0 (by decide) w_378 rfl dX8_unasked_1 (gR rfl fun x1 => ?_)
  refine v_getVN hc kX7 4 (by decide) w_191 rfl dX8_unasked_4 (gR rfl fun x4 => ?_)
  refine v_iload_n (i := 1) hc 1 rfl dX8_unasked_7 rfl ?_
  refine v_cB hc (m_V' (As := [.int p0]) (b := x4) (rest := []) 1 hc hr (fun l D tys base => ct5_has l D tys base h x4 p0) (fun x hx => ob5_has hx) rfl s5_has w_482 rfl ⟨Nat.le_of_ble_eq_true rfl, Nat.le_of_ble_eq_true rfl⟩ ⟨Nat.le_of_ble_eq_true rfl, Nat.le_of_ble_eq_true rfl⟩ (Nat.le_of_ble_eq_true rfl) dX8_unasked_8) fun x8 => ?_
  refine v_ifb_eq hc 25 dX8_unasked_11 rfl ?_ ?_
  · refine v_iconst (x := (-1 : Int32)) hc dX8_unasked_25 zi_m1 ?_
    exact v_iret hc hq rfl rfl (Nat.le_of_ble_eq_true rfl) (Nat.le_of_ble_eq_true rfl) rfl dX8_unasked_26
  · refine v_iload_n (i := 2) hc 2 rfl dX8_unasked_14 rfl ?_
    refine v_iconst (x := (0 : Int32)) hc dX8_unasked_15 zi_0 ?_
    refine v_sipush (x := (519 : Int32)) hc dX8_unasked_16 zs_519 ?_
    refine v_cB hc (m_S' (As := [.int p1, .int (0 : Int32), .int (519 : Int32)]) (rest := []) 3 hc hr (fun l D tys base => ct8_isFrom l D tys base h p1 (0 : Int32) (519 : Int32)) s8_isFrom w_413 rfl ⟨Nat.le_of_ble_eq_true rfl, Nat.le_of_ble_eq_true rfl⟩ ⟨Nat.le_of_ble_eq_true rfl, Nat.le_of_ble_eq_true rfl⟩ (Nat.le_of_ble_eq_true rfl) dX8_unasked_19) fun x19 => ?_
    refine v_ifb_ne hc 27 dX8_unasked_22 rfl ?_ ?_
    · refine v_aload_n (i := 0) hc 0 rfl dX8_unasked_27 rfl ?_
      refine v_getV hc kX8 0 (by decide) w_378 rfl dX8_unasked_28 (gR rfl fun x28 => ?_)
      refine v_iload_n (i := 1) hc 1 rfl dX8_unasked_31 rfl ?_
      refine v_iload_n (i := 2) hc 2 rfl dX8_unasked_32 rfl ?_
      refine v_cI hc (m_V' (As := [.int p0, .int p1]) (b := x28) (rest := []) 2 hc hr (fun l D tys base => ct7_unaskedUpTo l D tys base h x28 p0 p1) (fun x hx => ob7_unaskedUpTo hx) rfl s7_unaskedUpTo w_1083 rfl ⟨Nat.le_of_ble_eq_true rfl, Nat.le_of_ble_eq_true rfl⟩ ⟨Nat.le_of_ble_eq_true rfl, Nat.le_of_ble_eq_true rfl⟩ (Nat.le_of_ble_eq_true rfl) dX8_unasked_33) fun x33 => ?_
      exact v_iret hc hq rfl rfl (Nat.le_of_ble_eq_true rfl) (Nat.le_of_ble_eq_true rfl) rfl dX8_unasked_36
    · refine v_iconst (x := (-1 : Int32)) hc dX8_unasked_25 zi_m1 ?_
      exact v_iret hc hq rfl rfl (Nat.le_of_ble_eq_true rfl) (Nat.le_of_ble_eq_true rfl) rfl dX8_unasked_26
theorem s8_unasked : YV yX8_unasked RX8 cX8_unasked 3 (some .int) 2 := ⟨w_1082, w_1080, w_1081, w_108, rfl, by decide +kernel, by decide +kernel, by decide +kernel⟩
def f8_gain (h : AH) (this : Nat) (p0 : Int32) (p1 : Int32) : Option (Int32) := (hObj 8 h this).bind fun _ => (fR 8 0 h this).bind fun x1 => (fR 7 8 h x1).bind fun x4 => (f5_has h x4 p0).bind fun x8 => (if x8 = true then (f8_isFrom h p1 (0 : Int32) (519 : Int32)).bind fun x19 => (if x19 = true then (fR 8 0 h this).bind fun x28 => (f7_gainUpTo h x28 p0 p1).bind fun x33 => some x33 else some (-1 : Int32)) else some (-1 : Int32))
theorem ob8_gain {h : AH} {this : Nat} {p0 : Int32} {p1 : Int32} {x : Int32} (e : f8_gain h this p0 p1 = some x) : ∃ fs, hObj 8 h this = some fs := by
  unfold f8_gain at e
  obtain ⟨fs, h1, -⟩ := bd e
  exact ⟨fs, h1⟩
set_option maxRecDepth 100000 in
theorem ct8_gain (l : Launch) (D : va_G) (tys : Tys) (base : Nat) (h : AH) (this : Nat) (p0 : Int32) (p1 : Int32) : Ct l D tys base yX8_gain cX8_gain 3 (some .int) 5 112 0 0 [.ref this, .int p0, .int p1] h (rI h) (f8_gain h this p0 p1) := by
  refine Ct.intro (own := RX8) (L := [(0, .ref this), (1, .int p0), (2, .int p1)]) rfl (by decide) rfl (Nat.le_of_ble_eq_true rfl) fun κ hc hr hq hi hL => ?_
  have hn : ∀ i, i < 3 → i < κ.2.2.2.2.1 := fun i q => hL ▸ q
  unfold f8_gain
  refine v_obj ?_
  refine v_aload_n (i := 0) hc 0 rfl dX8_gain_0 rfl ?_
  refine v_getV hc kX8 0 (by decide) w_378 rfl dX8_gain_1 (gR rfl fun x1 => ?_)
  refine v_getVN hc kX7 8 (by decide) w_200 rfl dX8_gain_4 (gR rfl fun x4 => ?_)
  refine v_iload_n (i := 1) hc 1 rfl dX8_gain_7 rfl ?_
  refine v_cB hc (m_V' (As := [.int p0]) (b := x4) (rest := []) 1 hc hr (fun l D tys base => ct5_has l D tys base h x4 p0) (fun x hx => ob5_has hx) rfl s5_has w_482 rfl ⟨Nat.le_of_ble_eq_true rfl, Nat.le_of_ble_eq_true rfl⟩ ⟨Nat.le_of_ble_eq_true rfl, Nat.le_of_ble_eq_true rfl⟩ (Nat.le_of_ble_eq_true rfl) dX8_gain_8) fun x8 => ?_
  refine v_ifb_eq hc 25 dX8_gain_11 rfl ?_ ?_
  · refine v_iconst (x := (-1 : Int32)) hc dX8_gain_25 zi_m1 ?_
    exact v_iret hc hq rfl rfl (Nat.le_of_ble_eq_true rfl) (Nat.le_of_ble_eq_true rfl) rfl dX8_gain_26
  · refine v_iload_n (i := 2) hc 2 rfl dX8_gain_14 rfl ?_
    refine v_iconst (x := (0 : Int32)) hc dX8_gain_15 zi_0 ?_
    refine v_sipush (x := (519 : Int32)) hc dX8_gain_16 zs_519 ?_
    refine v_cB hc (m_S' (As := [.int p1, .int (0 : Int32), .int (519 : Int32)]) (rest := []) 3 hc hr (fun l D tys base => ct8_isFrom l D tys base h p1 (0 : Int32) (519 : Int32)) s8_isFrom w_413 rfl ⟨Nat.le_of_ble_eq_true rfl, Nat.le_of_ble_eq_true rfl⟩ ⟨Nat.le_of_ble_eq_true rfl, Nat.le_of_ble_eq_true rfl⟩ (Nat.le_of_ble_eq_true rfl) dX8_gain_19) fun x19 => ?_
    refine v_ifb_ne hc 27 dX8_gain_22 rfl ?_ ?_
    · refine v_aload_n (i := 0) hc 0 rfl dX8_gain_27 rfl ?_
      refine v_getV hc kX8 0 (by decide) w_378 rfl dX8_gain_28 (gR rfl fun x28 => ?_)
      refine v_iload_n (i := 1) hc 1 rfl dX8_gain_31 rfl ?_
      refine v_iload_n (i := 2) hc 2 rfl dX8_gain_32 rfl ?_
      refine v_cI hc (m_V' (As := [.int p0, .int p1]) (b := x28) (rest := []) 2 hc hr (fun l D tys base => ct7_gainUpTo l D tys base h x28 p0 p1) (fun x hx => ob7_gainUpTo hx) rfl s7_gainUpTo w_1096 rfl ⟨Nat.le_of_ble_eq_true rfl, Nat.le_of_ble_eq_true rfl⟩ ⟨Nat.le_of_ble_eq_true rfl, Nat.le_of_ble_eq_true rfl⟩ (Nat.le_of_ble_eq_true rfl) dX8_gain_33) fun x33 => ?_
      exact v_iret hc hq rfl rfl (Nat.le_of_ble_eq_true rfl) (Nat.le_of_ble_eq_true rfl) rfl dX8_gain_36
    · refine v_iconst (x := (-1 : Int32)) hc dX8_gain_25 zi_m1 ?_
      exact v_iret hc hq rfl rfl (Nat.le_of_ble_eq_true rfl) (Nat.le_of_ble_eq_true rfl) rfl dX8_gain_26
theorem s8_gain : YV yX8_gain RX8 cX8_gain 3 (some .int) 2 := ⟨w_1095, w_1093, w_1094, w_108, rfl, by decide +kernel, by decide +kernel, by decide +kernel⟩
def f8_count (h : AH) (this : Nat) (p0 : Int32) : Option (Int32) := (hObj 8 h this).bind fun _ => (if p0 = (0 : Int32) then (fR 8 0 h this).bind fun x65 => (fI 7 0 h x65).bind fun x68 => some x68 else (if p0 = (1 : Int32) then (fR 8 0 h this).bind fun x73 => (fR 7 1 h x73).bind fun x76 => (f5_size h x76).bind fun x79 => some x79 else (if p0 = (2 : Int32) then (fR 8 0 h this).bind fun x84 => (fR 7 2 h x84).bind fun x87 => (f2_size h x87).bind fun x90 => some x90 else (if p0 = (3 : Int32) then (fR 8 0 h this).bind fun x95 => (fR 7 3 h x95).bind fun x98 => (f2_size h x98).bind fun x101 => some x101 else (if p0 = (4 : Int32) then (fR 8 0 h this).bind fun x106 => (fR 7 4 h x106).bind fun x109 => (f5_size h x109).bind fun x112 => some x112 else (if p0 = (5 : Int32) then (fR 8 0 h this).bind fun x117 => (fR 7 5 h x117).bind fun x120 => (f2_size h x120).bind fun x123 => some x123 else (if p0 = (6 : Int32) then (fI 8 5 h this).bind fun x128 => some x128 else (if p0 = (7 : Int32) then (fI 8 7 h this).bind fun x133 => some x133 else (if p0 = (8 : Int32) then (fR 8 0 h this).bind fun x138 => (fR 7 6 h x138).bind fun x141 => (f5_size h x141).bind fun x144 => some x144 else (if p0 = (9 : Int32) then (fR 8 0 h this).bind fun x149 => (fR 7 7 h x149).bind fun x152 => (f5_size h x152).bind fun x155 => some x155 else (if p0 = (10 : Int32) then (fR 8 0 h this).bind fun x160 => (fR 7 8 h x160).bind fun x163 => (f5_size h x163).bind fun x166 => some x166 else (if p0 = (11 : Int32) then (fR 8 2 h this).bind fun x171 => (f6_size h x171).bind fun x174 => some x174 else some (-1 : Int32)))))))))))))
theorem ob8_count {h : AH} {this : Nat} {p0 : Int32} {x : Int32} (e : f8_count h this p0 = some x) : ∃ fs, hObj 8 h this = some fs := by
  unfold f8_count at e
  obtain ⟨fs, h1, -⟩ := bd e
  exact ⟨fs, h1⟩
set_option maxRecDepth 100000 in
theorem ct8_count (l : Launch) (D : va_G) (tys : Tys) (base : Nat) (h : AH) (this : Nat) (p0 : Int32) : Ct l D tys base yX8_count cX8_count 2 (some .int) 1 20 0 0 [.ref this, .int p0] h (rI h) (f8_count h this p0) := by
  refine Ct.intro (own := RX8) (L := [(0, .ref this), (1, .int p0)]) rfl (by decide) rfl (Nat.le_of_ble_eq_true rfl) fun κ hc hr hq hi hL => ?_
  have hn : ∀ i, i < 2 → i < κ.2.2.2.2.1 := fun i q => hL ▸ q
  unfold f8_count
  refine v_obj ?_
  refine v_iload_n (i := 1) hc 1 rfl dX8_count_0 rfl ?_
  refine v_ite (fun q0 => ?_) (fun q0 => ?_)
  · refine v_tIn hc (0 : Int32) q0 64 dX8_count_1 (by decide) (by decide) rfl rfl ?_
    refine v_aload_n (i := 0) hc 0 rfl dX8_count_64 rfl ?_
    refine v_getV hc kX8 0 (by decide) w_378 rfl dX8_count_65 (gR rfl fun x65 => ?_)
    refine v_getVN hc kX7 0 (by decide) w_180 rfl dX8_count_68 (gI rfl fun x68 => ?_)
    exact v_iret hc hq rfl rfl (Nat.le_of_ble_eq_true rfl) (Nat.le_of_ble_eq_true rfl) rfl dX8_count_71
  · refine v_ite (fun q1 => ?_) (fun q1 => ?_)
    · refine v_tIn hc (1 : Int32) q1 72 dX8_count_1 (by decide) (by decide) rfl rfl ?_
      refine v_aload_n (i := 0) hc 0 rfl dX8_count_72 rfl ?_
      refine v_getV hc kX8 0 (by decide) w_378 rfl dX8_count_73 (gR rfl fun x73 => ?_)
      refine v_getVN hc kX7 1 (by decide) w_182 rfl dX8_count_76 (gR rfl fun x76 => ?_)
      refine v_cI hc (m_V' (As := []) (b := x76) (rest := []) 0 hc hr (fun l D tys base => ct5_size l D tys base h x76) (fun x hx => ob5_size hx) rfl s5_size w_474 rfl ⟨Nat.le_of_ble_eq_true rfl, Nat.le_of_ble_eq_true rfl⟩ ⟨Nat.le_of_ble_eq_true rfl, Nat.le_of_ble_eq_true rfl⟩ (Nat.le_of_ble_eq_true rfl) dX8_count_79) fun x79 => ?_
      exact v_iret hc hq rfl rfl (Nat.le_of_ble_eq_true rfl) (Nat.le_of_ble_eq_true rfl) rfl dX8_count_82
    · refine v_ite (fun q2 => ?_) (fun q2 => ?_)
      · refine v_tIn hc (2 : Int32) q2 83 dX8_count_1 (by decide) (by decide) rfl rfl ?_
        refine v_aload_n (i := 0) hc 0 rfl dX8_count_83 rfl ?_
        refine v_getV hc kX8 0 (by decide) w_378 rfl dX8_count_84 (gR rfl fun x84 => ?_)
        refine v_getVN hc kX7 2 (by decide) w_184 rfl dX8_count_87 (gR rfl fun x87 => ?_)
        refine v_cI hc (m_V' (As := []) (b := x87) (rest := []) 0 hc hr (fun l D tys base => ct2_size l D tys base h x87) (fun x hx => ob2_size hx) rfl s2_size w_1006 rfl ⟨Nat.le_of_ble_eq_true rfl, Nat.le_of_ble_eq_true rfl⟩ ⟨Nat.le_of_ble_eq_true rfl, Nat.le_of_ble_eq_true rfl⟩ (Nat.le_of_ble_eq_true rfl) dX8_count_90) fun x90 => ?_
        exact v_iret hc hq rfl rfl (Nat.le_of_ble_eq_true rfl) (Nat.le_of_ble_eq_true rfl) rfl dX8_count_93
      · refine v_ite (fun q3 => ?_) (fun q3 => ?_)
        · refine v_tIn hc (3 : Int32) q3 94 dX8_count_1 (by decide) (by decide) rfl rfl ?_
          refine v_aload_n (i := 0) hc 0 rfl dX8_count_94 rfl ?_
          refine v_getV hc kX8 0 (by decide) w_378 rfl dX8_count_95 (gR rfl fun x95 => ?_)
          refine v_getVN hc kX7 3 (by decide) w_188 rfl dX8_count_98 (gR rfl fun x98 => ?_)
          refine v_cI hc (m_V' (As := []) (b := x98) (rest := []) 0 hc hr (fun l D tys base => ct2_size l D tys base h x98) (fun x hx => ob2_size hx) rfl s2_size w_1006 rfl ⟨Nat.le_of_ble_eq_true rfl, Nat.le_of_ble_eq_true rfl⟩ ⟨Nat.le_of_ble_eq_true rfl, Nat.le_of_ble_eq_true rfl⟩ (Nat.le_of_ble_eq_true rfl) dX8_count_101) fun x101 => ?_
          exact v_iret hc hq rfl rfl (Nat.le_of_ble_eq_true rfl) (Nat.le_of_ble_eq_true rfl) rfl dX8_count_104
        · refine v_ite (fun q4 => ?_) (fun q4 => ?_)
          · refine v_tIn hc (4 : Int32) q4 105 dX8_count_1 (by decide) (by decide) rfl rfl ?_
            refine v_aload_n (i := 0) hc 0 rfl dX8_count_105 rfl ?_
            refine v_getV hc kX8 0 (by decide) w_378 rfl dX8_count_106 (gR rfl fun x106 => ?_)
            refine v_getVN hc kX7 4 (by decide) w_191 rfl dX8_count_109 (gR rfl fun x109 => ?_)
            refine v_cI hc (m_V' (As := []) (b := x109) (rest := []) 0 hc hr (fun l D tys base => ct5_size l D tys base h x109) (fun x hx => ob5_size hx) rfl s5_size w_474 rfl ⟨Nat.le_of_ble_eq_true rfl, Nat.le_of_ble_eq_true rfl⟩ ⟨Nat.le_of_ble_eq_true rfl, Nat.le_of_ble_eq_true rfl⟩ (Nat.le_of_ble_eq_true rfl) dX8_count_112) fun x112 => ?_
            exact v_iret hc hq rfl rfl (Nat.le_of_ble_eq_true rfl) (Nat.le_of_ble_eq_true rfl) rfl dX8_count_115
          · refine v_ite (fun q5 => ?_) (fun q5 => ?_)
            · refine v_tIn hc (5 : Int32) q5 116 dX8_count_1 (by decide) (by decide) rfl rfl ?_
              refine v_aload_n (i := 0) hc 0 rfl dX8_count_116 rfl ?_
              refine v_getV hc kX8 0 (by decide) w_378 rfl dX8_count_117 (gR rfl fun x117 => ?_)
              refine v_getVN hc kX7 5 (by decide) w_194 rfl dX8_count_120 (gR rfl fun x120 => ?_)
              refine v_cI hc (m_V' (As := []) (b := x120) (rest := []) 0 hc hr (fun l D tys base => ct2_size l D tys base h x120) (fun x hx => ob2_size hx) rfl s2_size w_1006 rfl ⟨Nat.le_of_ble_eq_true rfl, Nat.le_of_ble_eq_true rfl⟩ ⟨Nat.le_of_ble_eq_true rfl, Nat.le_of_ble_eq_true rfl⟩ (Nat.le_of_ble_eq_true rfl) dX8_count_123) fun x123 => ?_
              exact v_iret hc hq rfl rfl (Nat.le_of_ble_eq_true rfl) (Nat.le_of_ble_eq_true rfl) rfl dX8_count_126
            · refine v_ite (fun q6 => ?_) (fun q6 => ?_)
              · refine v_tIn hc (6 : Int32) q6 127 dX8_count_1 (by decide) (by decide) rfl rfl ?_
                refine v_aload_n (i := 0) hc 0 rfl dX8_count_127 rfl ?_
                refine v_getV hc kX8 5 (by decide) w_383 rfl dX8_count_128 (gI rfl fun x128 => ?_)
                exact v_iret hc hq rfl rfl (Nat.le_of_ble_eq_true rfl) (Nat.le_of_ble_eq_true rfl) rfl dX8_count_131
              · refine v_ite (fun q7 => ?_) (fun q7 => ?_)
                · refine v_tIn hc (7 : Int32) q7 132 dX8_count_1 (by decide) (by decide) rfl rfl ?_
                  refine v_aload_n (i := 0) hc 0 rfl dX8_count_132 rfl ?_
                  refine v_getV hc kX8 7 (by decide) w_385 rfl dX8_count_133 (gI rfl fun x133 => ?_)
                  exact v_iret hc hq rfl rfl (Nat.le_of_ble_eq_true rfl) (Nat.le_of_ble_eq_true rfl) rfl dX8_count_136
                · refine v_ite (fun q8 => ?_) (fun q8 => ?_)
                  · refine v_tIn hc (8 : Int32) q8 137 dX8_count_1 (by decide) (by decide) rfl rfl ?_
                    refine v_aload_n (i := 0) hc 0 rfl dX8_count_137 rfl ?_
                    refine v_getV hc kX8 0 (by decide) w_378 rfl dX8_count_138 (gR rfl fun x138 => ?_)
                    refine v_getVN hc kX7 6 (by decide) w_196 rfl dX8_count_141 (gR rfl fun x141 => ?_)
                    refine v_cI hc (m_V' (As := []) (b := x141) (rest := []) 0 hc hr (fun l D tys base => ct5_size l D tys base h x141) (fun x hx => ob5_size hx) rfl s5_size w_474 rfl ⟨Nat.le_of_ble_eq_true rfl, Nat.le_of_ble_eq_true rfl⟩ ⟨Nat.le_of_ble_eq_true rfl, Nat.le_of_ble_eq_true rfl⟩ (Nat.le_of_ble_eq_true rfl) dX8_count_144) fun x144 => ?_
                    exact v_iret hc hq rfl rfl (Nat.le_of_ble_eq_true rfl) (Nat.le_of_ble_eq_true rfl) rfl dX8_count_147
                  · refine v_ite (fun q9 => ?_) (fun q9 => ?_)
                    · refine v_tIn hc (9 : Int32) q9 148 dX8_count_1 (by decide) (by decide) rfl rfl ?_
                      refine v_aload_n (i := 0) hc 0 rfl dX8_count_148 rfl ?_
                      refine v_getV hc kX8 0 (by decide) w_378 rfl dX8_count_149 (gR rfl fun x149 => ?_)
                      refine v_getVN hc kX7 7 (by decide) w_198 rfl dX8_count_152 (gR rfl fun x152 => ?_)
                      refine v_cI hc (m_V' (As := []) (b := x152) (rest := []) 0 hc hr (fun l D tys base => ct5_size l D tys base h x152) (fun x hx => ob5_size hx) rfl s5_size w_474 rfl ⟨Nat.le_of_ble_eq_true rfl, Nat.le_of_ble_eq_true rfl⟩ ⟨Nat.le_of_ble_eq_true rfl, Nat.le_of_ble_eq_true rfl⟩ (Nat.le_of_ble_eq_true rfl) dX8_count_155) fun x155 => ?_
                      exact v_iret hc hq rfl rfl (Nat.le_of_ble_eq_true rfl) (Nat.le_of_ble_eq_true rfl) rfl dX8_count_158
                    · refine v_ite (fun q10 => ?_) (fun q10 => ?_)
                      · refine v_tIn hc (10 : Int32) q10 159 dX8_count_1 (by decide) (by decide) rfl rfl ?_
                        refine v_aload_n (i := 0) hc 0 rfl dX8_count_159 rfl ?_
                        refine v_getV hc kX8 0 (by decide) w_378 rfl dX8_count_160 (gR rfl fun x160 => ?_)
                        refine v_getVN hc kX7 8 (by decide) w_200 rfl dX8_count_163 (gR rfl fun x163 => ?_)
                        refine v_cI hc (m_V' (As := []) (b := x163) (rest := []) 0 hc hr (fun l D tys base => ct5_size l D tys base h x163) (fun x hx => ob5_size hx) rfl s5_size w_474 rfl ⟨Nat.le_of_ble_eq_true rfl, Nat.le_of_ble_eq_true rfl⟩ ⟨Nat.le_of_ble_eq_true rfl, Nat.le_of_ble_eq_true rfl⟩ (Nat.le_of_ble_eq_true rfl) dX8_count_166) fun x166 => ?_
                        exact v_iret hc hq rfl rfl (Nat.le_of_ble_eq_true rfl) (Nat.le_of_ble_eq_true rfl) rfl dX8_count_169
                      · refine v_ite (fun q11 => ?_) (fun q11 => ?_)
                        · refine v_tIn hc (11 : Int32) q11 170 dX8_count_1 (by decide) (by decide) rfl rfl ?_
                          refine v_aload_n (i := 0) hc 0 rfl dX8_count_170 rfl ?_
                          refine v_getV hc kX8 2 (by decide) w_380 rfl dX8_count_171 (gR rfl fun x171 => ?_)
                          refine v_cI hc (m_V' (As := []) (b := x171) (rest := []) 0 hc hr (fun l D tys base => ct6_size l D tys base h x171) (fun x hx => ob6_size hx) rfl s6_size w_572 rfl ⟨Nat.le_of_ble_eq_true rfl, Nat.le_of_ble_eq_true rfl⟩ ⟨Nat.le_of_ble_eq_true rfl, Nat.le_of_ble_eq_true rfl⟩ (Nat.le_of_ble_eq_true rfl) dX8_count_174) fun x174 => ?_
                          exact v_iret hc hq rfl rfl (Nat.le_of_ble_eq_true rfl) (Nat.le_of_ble_eq_true rfl) rfl dX8_count_177
                        · refine v_tOut hc 178 dX8_count_1 (by have e0 := lv_neT (a := 0) q0 (by decide); have e1 := lv_neT (a := 1) q1 (by decide); have e2 := lv_neT (a := 2) q2 (by decide); have e3 := lv_neT (a := 3) q3 (by decide); have e4 := lv_neT (a := 4) q4 (by decide); have e5 := lv_neT (a := 5) q5 (by decide); have e6 := lv_neT (a := 6) q6 (by decide); have e7 := lv_neT (a := 7) q7 (by decide); have e8 := lv_neT (a := 8) q8 (by decide); have e9 := lv_neT (a := 9) q9 (by decide); have e10 := lv_neT (a := 10) q10 (by decide); have e11 := lv_neT (a := 11) q11 (by decide); omega) rfl ?_
                          refine v_iconst (x := (-1 : Int32)) hc dX8_count_178 zi_m1 ?_
                          exact v_iret hc hq rfl rfl (Nat.le_of_ble_eq_true rfl) (Nat.le_of_ble_eq_true rfl) rfl dX8_count_179
theorem s8_count : YV yX8_count RX8 cX8_count 2 (some .int) 1 := ⟨w_1103, w_1101, w_1102, w_108, rfl, by decide +kernel, by decide +kernel, by decide +kernel⟩
def f8_image (h : AH) (this : Nat) (p0 : Int32) : Option (Int32 × AH) := (hObj 8 h this).bind fun _ => (fR 8 1 h this).bind fun x3 => (aN h x3).bind fun x6 => (f8_isFrom h p0 (0 : Int32) (x6 - (1 : Int32))).bind fun x9 => (if x9 = true then (fR 8 1 h this).bind fun x18 => (aQ 4 h x18 p0).bind fun x22 => (oM x22 ((fR 8 1 h this).bind fun x27 => (nO 7 [.int 0, .null, .null, .null, .null, .null, .null, .null, .null] h).bind fun y31 => (f7_init y31.2 y31.1).bind fun x35 => (sR 4 7 x35 x27 p0 y31.1).bind fun h38 => (fR 8 1 h38 this).bind fun x40 => (aQ 4 h38 x40 p0).bind fun x44 => (fR 8 0 h38 this).bind fun x46 => (x44).bind fun b49 => (f7_copyFrom h38 b49 x46).bind fun x49 => (fR 8 0 x49 this).bind fun x53 => (fI 7 0 x49 x53).bind fun x56 => some (x56, x49)) fun a23 => (fR 8 1 h this).bind fun x40 => (aQ 4 h x40 p0).bind fun x44 => (fR 8 0 h this).bind fun x46 => (x44).bind fun b49 => (f7_copyFrom h b49 x46).bind fun x49 => (fR 8 0 x49 this).bind fun x53 => (fI 7 0 x49 x53).bind fun x56 => some (x56, x49)) else some ((-1 : Int32), h))
theorem ob8_image {h : AH} {this : Nat} {p0 : Int32} {x : Int32 × AH} (e : f8_image h this p0 = some x) : ∃ fs, hObj 8 h this = some fs := by
  unfold f8_image at e
  obtain ⟨fs, h1, -⟩ := bd e
  exact ⟨fs, h1⟩
set_option maxRecDepth 100000 in
theorem ct8_image (l : Launch) (D : va_G) (tys : Tys) (base : Nat) (h : AH) (this : Nat) (p0 : Int32) : Ct l D tys base yX8_image cX8_image 2 (some .int) 3 83 20 6938 [.ref this, .int p0] h (wI) (f8_image h this p0) := by
  refine Ct.intro (own := RX8) (L := [(0, .ref this), (1, .int p0)]) rfl (by decide) rfl (Nat.le_of_ble_eq_true rfl) fun κ hc hr hq hi hL => ?_
  have hn : ∀ i, i < 2 → i < κ.2.2.2.2.1 := fun i q => hL ▸ q
  unfold f8_image
  refine v_obj ?_
  refine v_iload_n (i := 1) hc 1 rfl dX8_image_0 rfl ?_
  refine v_iconst (x := (0 : Int32)) hc dX8_image_1 zi_0 ?_
  refine v_aload_n (i := 0) hc 0 rfl dX8_image_2 rfl ?_
  refine v_getV hc kX8 1 (by decide) w_379 rfl dX8_image_3 (gR rfl fun x3 => ?_)
  refine v_alen hc dX8_image_6 fun x6 => ?_
  refine v_iconst (x := (1 : Int32)) hc dX8_image_7 zi_1 ?_
  refine v_isub hc dX8_image_8 ?_
  refine v_cB hc (m_S' (As := [.int p0, .int (0 : Int32), .int (x6 - (1 : Int32))]) (rest := []) 3 hc hr (fun l D tys base => ct8_isFrom l D tys base h p0 (0 : Int32) (x6 - (1 : Int32))) s8_isFrom w_413 rfl ⟨Nat.le_of_ble_eq_true rfl, Nat.le_of_ble_eq_true rfl⟩ ⟨Nat.le_of_ble_eq_true rfl, Nat.le_of_ble_eq_true rfl⟩ (Nat.le_of_ble_eq_true rfl) dX8_image_9) fun x9 => ?_
  refine v_ifb_ne hc 17 dX8_image_12 rfl ?_ ?_
  · refine v_aload_n (i := 0) hc 0 rfl dX8_image_17 rfl ?_
    refine v_getV hc kX8 1 (by decide) w_379 rfl dX8_image_18 (gR rfl fun x18 => ?_)
    refine v_iload_n (i := 1) hc 1 rfl dX8_image_21 rfl ?_
    refine v_aald 4 rfl hc dX8_image_22 fun x22 => ?_
    refine v_ifnonnull hc 39 dX8_image_23 rfl ?_ ?_
    · intro hx23
      subst hx23
      refine v_aload_n (i := 0) hc 0 rfl dX8_image_26 rfl ?_
      refine v_getV hc kX8 1 (by decide) w_379 rfl dX8_image_27 (gR rfl fun x27 => ?_)
      refine v_iload_n (i := 1) hc 1 rfl dX8_image_30 rfl ?_
      refine v_new hc hr kX7 w_133 w_134 w_109 (by decide +kernel) (Nat.le_of_ble_eq_true rfl) (Nat.le_of_ble_eq_true rfl) dX8_image_31 fun y31 => ?_
      refine v_dup hc dX8_image_34 rfl ?_
      refine v_cV hc (m_IN' (As := []) (b := y31.1) (rest := [.ref y31.1, .int p0, .ref x27]) 0 hc hr (fun l D tys base => ct7_init l D tys base y31.2 y31.1) s7_init w_135 rfl ⟨Nat.le_of_ble_eq_true rfl, Nat.le_of_ble_eq_true rfl⟩ ⟨Nat.le_of_ble_eq_true rfl, Nat.le_of_ble_eq_true rfl⟩ (Nat.le_of_ble_eq_true rfl) dX8_image_35) fun x35 => ?_
      refine v_aast 4 7 rfl rfl hc dX8_image_38 fun h38 => ?_
      refine v_aload_n (i := 0) hc 0 rfl dX8_image_39 rfl ?_
      refine v_getV hc kX8 1 (by decide) w_379 rfl dX8_image_40 (gR rfl fun x40 => ?_)
      refine v_iload_n (i := 1) hc 1 rfl dX8_image_43 rfl ?_
      refine v_aald 4 rfl hc dX8_image_44 fun x44 => ?_
      refine v_aload_n (i := 0) hc 0 rfl dX8_image_45 rfl ?_
      refine v_getV hc kX8 0 (by decide) w_378 rfl dX8_image_46 (gR rfl fun x46 => ?_)
      refine v_nn fun b49 hb49 => ?_
      subst hb49
      refine v_cV hc (m_V' (As := [.ref x46]) (b := b49) (rest := []) 1 hc hr (fun l D tys base => ct7_copyFrom l D tys base h38 b49 x46) (fun x hx => ob7_copyFrom hx) rfl s7_copyFrom w_1108 rfl ⟨Nat.le_of_ble_eq_true rfl, Nat.le_of_ble_eq_true rfl⟩ ⟨Nat.le_of_ble_eq_true rfl, Nat.le_of_ble_eq_true rfl⟩ (Nat.le_of_ble_eq_true rfl) dX8_image_49) fun x49 => ?_
      refine v_aload_n (i := 0) hc 0 rfl dX8_image_52 rfl ?_
      refine v_getV hc kX8 0 (by decide) w_378 rfl dX8_image_53 (gR rfl fun x53 => ?_)
      refine v_getVN hc kX7 0 (by decide) w_180 rfl dX8_image_56 (gI rfl fun x56 => ?_)
      exact v_iret hc hq rfl rfl (Nat.le_of_ble_eq_true rfl) (Nat.le_of_ble_eq_true rfl) rfl dX8_image_59
    · intro a23 hx23
      subst hx23
      refine v_aload_n (i := 0) hc 0 rfl dX8_image_39 rfl ?_
      refine v_getV hc kX8 1 (by decide) w_379 rfl dX8_image_40 (gR rfl fun x40 => ?_)
      refine v_iload_n (i := 1) hc 1 rfl dX8_image_43 rfl ?_
      refine v_aald 4 rfl hc dX8_image_44 fun x44 => ?_
      refine v_aload_n (i := 0) hc 0 rfl dX8_image_45 rfl ?_
      refine v_getV hc kX8 0 (by decide) w_378 rfl dX8_image_46 (gR rfl fun x46 => ?_)
      refine v_nn fun b49 hb49 => ?_
      subst hb49
      refine v_cV hc (m_V' (As := [.ref x46]) (b := b49) (rest := []) 1 hc hr (fun l D tys base => ct7_copyFrom l D tys base h b49 x46) (fun x hx => ob7_copyFrom hx) rfl s7_copyFrom w_1108 rfl ⟨Nat.le_of_ble_eq_true rfl, Nat.le_of_ble_eq_true rfl⟩ ⟨Nat.le_of_ble_eq_true rfl, Nat.le_of_ble_eq_true rfl⟩ (Nat.le_of_ble_eq_true rfl) dX8_image_49) fun x49 => ?_
      refine v_aload_n (i := 0) hc 0 rfl dX8_image_52 rfl ?_
      refine v_getV hc kX8 0 (by decide) w_378 rfl dX8_image_53 (gR rfl fun x53 => ?_)
      refine v_getVN hc kX7 0 (by decide) w_180 rfl dX8_image_56 (gI rfl fun x56 => ?_)
      exact v_iret hc hq rfl rfl (Nat.le_of_ble_eq_true rfl) (Nat.le_of_ble_eq_true rfl) rfl dX8_image_59
  · refine v_iconst (x := (-1 : Int32)) hc dX8_image_15 zi_m1 ?_
    exact v_iret hc hq rfl rfl (Nat.le_of_ble_eq_true rfl) (Nat.le_of_ble_eq_true rfl) rfl dX8_image_16
theorem s8_image : YV yX8_image RX8 cX8_image 2 (some .int) 1 := ⟨w_1107, w_1105, w_1106, w_108, rfl, by decide +kernel, by decide +kernel, by decide +kernel⟩
def f8_back (h : AH) (this : Nat) (p0 : Int32) : Option (Int32 × AH) := (hObj 8 h this).bind fun _ => (fR 8 1 h this).bind fun x3 => (aN h x3).bind fun x6 => (f8_isFrom h p0 (0 : Int32) (x6 - (1 : Int32))).bind fun x9 => (if x9 = true then (fR 8 1 h this).bind fun x16 => (aQ 4 h x16 p0).bind fun x20 => (oM x20 (some ((-1 : Int32), h)) fun a21 => (fR 8 0 h this).bind fun x27 => (fR 8 1 h this).bind fun x31 => (aQ 4 h x31 p0).bind fun x35 => (x35).bind fun b36 => (f7_copyFrom h x27 b36).bind fun x36 => (fR 8 0 x36 this).bind fun x40 => (fI 7 0 x36 x40).bind fun x43 => some (x43, x36)) else some ((-1 : Int32), h))
theorem ob8_back {h : AH} {this : Nat} {p0 : Int32} {x : Int32 × AH} (e : f8_back h this p0 = some x) : ∃ fs, hObj 8 h this = some fs := by
  unfold f8_back at e
  obtain ⟨fs, h1, -⟩ := bd e
  exact ⟨fs, h1⟩
set_option maxRecDepth 100000 in
theorem ct8_back (l : Launch) (D : va_G) (tys : Tys) (base : Nat) (h : AH) (this : Nat) (p0 : Int32) : Ct l D tys base yX8_back cX8_back 2 (some .int) 3 83 0 0 [.ref this, .int p0] h (wI) (f8_back h this p0) := by
  refine Ct.intro (own := RX8) (L := [(0, .ref this), (1, .int p0)]) rfl (by decide) rfl (Nat.le_of_ble_eq_true rfl) fun κ hc hr hq hi hL => ?_
  have hn : ∀ i, i < 2 → i < κ.2.2.2.2.1 := fun i q => hL ▸ q
  unfold f8_back
  refine v_obj ?_
  refine v_iload_n (i := 1) hc 1 rfl dX8_back_0 rfl ?_
  refine v_iconst (x := (0 : Int32)) hc dX8_back_1 zi_0 ?_
  refine v_aload_n (i := 0) hc 0 rfl dX8_back_2 rfl ?_
  refine v_getV hc kX8 1 (by decide) w_379 rfl dX8_back_3 (gR rfl fun x3 => ?_)
  refine v_alen hc dX8_back_6 fun x6 => ?_
  refine v_iconst (x := (1 : Int32)) hc dX8_back_7 zi_1 ?_
  refine v_isub hc dX8_back_8 ?_
  refine v_cB hc (m_S' (As := [.int p0, .int (0 : Int32), .int (x6 - (1 : Int32))]) (rest := []) 3 hc hr (fun l D tys base => ct8_isFrom l D tys base h p0 (0 : Int32) (x6 - (1 : Int32))) s8_isFrom w_413 rfl ⟨Nat.le_of_ble_eq_true rfl, Nat.le_of_ble_eq_true rfl⟩ ⟨Nat.le_of_ble_eq_true rfl, Nat.le_of_ble_eq_true rfl⟩ (Nat.le_of_ble_eq_true rfl) dX8_back_9) fun x9 => ?_
  refine v_ifb_eq hc 24 dX8_back_12 rfl ?_ ?_
  · refine v_iconst (x := (-1 : Int32)) hc dX8_back_24 zi_m1 ?_
    exact v_iret hc hq rfl rfl (Nat.le_of_ble_eq_true rfl) (Nat.le_of_ble_eq_true rfl) rfl dX8_back_25
  · refine v_aload_n (i := 0) hc 0 rfl dX8_back_15 rfl ?_
    refine v_getV hc kX8 1 (by decide) w_379 rfl dX8_back_16 (gR rfl fun x16 => ?_)
    refine v_iload_n (i := 1) hc 1 rfl dX8_back_19 rfl ?_
    refine v_aald 4 rfl hc dX8_back_20 fun x20 => ?_
    refine v_ifnonnull hc 26 dX8_back_21 rfl ?_ ?_
    · intro hx21
      subst hx21
      refine v_iconst (x := (-1 : Int32)) hc dX8_back_24 zi_m1 ?_
      exact v_iret hc hq rfl rfl (Nat.le_of_ble_eq_true rfl) (Nat.le_of_ble_eq_true rfl) rfl dX8_back_25
    · intro a21 hx21
      subst hx21
      refine v_aload_n (i := 0) hc 0 rfl dX8_back_26 rfl ?_
      refine v_getV hc kX8 0 (by decide) w_378 rfl dX8_back_27 (gR rfl fun x27 => ?_)
      refine v_aload_n (i := 0) hc 0 rfl dX8_back_30 rfl ?_
      refine v_getV hc kX8 1 (by decide) w_379 rfl dX8_back_31 (gR rfl fun x31 => ?_)
      refine v_iload_n (i := 1) hc 1 rfl dX8_back_34 rfl ?_
      refine v_aald 4 rfl hc dX8_back_35 fun x35 => ?_
      refine v_nn fun b36 hb36 => ?_
      subst hb36
      refine v_cV hc (m_V' (As := [.ref b36]) (b := x27) (rest := []) 1 hc hr (fun l D tys base => ct7_copyFrom l D tys base h x27 b36) (fun x hx => ob7_copyFrom hx) rfl s7_copyFrom w_1108 rfl ⟨Nat.le_of_ble_eq_true rfl, Nat.le_of_ble_eq_true rfl⟩ ⟨Nat.le_of_ble_eq_true rfl, Nat.le_of_ble_eq_true rfl⟩ (Nat.le_of_ble_eq_true rfl) dX8_back_36) fun x36 => ?_
      refine v_aload_n (i := 0) hc 0 rfl dX8_back_39 rfl ?_
      refine v_getV hc kX8 0 (by decide) w_378 rfl dX8_back_40 (gR rfl fun x40 => ?_)
      refine v_getVN hc kX7 0 (by decide) w_180 rfl dX8_back_43 (gI rfl fun x43 => ?_)
      exact v_iret hc hq rfl rfl (Nat.le_of_ble_eq_true rfl) (Nat.le_of_ble_eq_true rfl) rfl dX8_back_46
theorem s8_back : YV yX8_back RX8 cX8_back 2 (some .int) 1 := ⟨w_1124, w_1122, w_1123, w_108, rfl, by decide +kernel, by decide +kernel, by decide +kernel⟩
