def f6_init (h : AH) (this : Nat) : Option (AH) := (hObj 6 h this).bind fun _ => (nB 0 400 h (400 : Int32)).bind fun y8 => (fS 6 0 y8.2 this (.ref y8.1)).bind fun h10 => (fS 6 1 h10 this (.int (0 : Int32))).bind fun h15 => (fS 6 2 h15 this (.int (0 : Int32))).bind fun h20 => (fS 6 3 h20 this (.int (0 : Int32))).bind fun h25 => (fS 6 4 h25 this (.int (34 : Int32))).bind fun h31 => (fS 6 5 h31 this (.int (0 : Int32))).bind fun h36 => (fS 6 6 h36 this (.int (0 : Int32))).bind fun h41 => some h41
theorem ob6_init {h : AH} {this : Nat} {x : AH} (e : f6_init h this = some x) : ∃ fs, hObj 6 h this = some fs := by
  unfold f6_init at e
  obtain ⟨fs, h1, -⟩ := bd e
  exact ⟨fs, h1⟩
set_option maxRecDepth 100000 in
theorem ct6_init (l : Launch) (D : va_G) (tys : Tys) (base : Nat) (h : AH) (this : Nat) : Ct l D tys base yX6_init cX6_init 1 none 1 12 1 400 [.ref this] h (wV) (f6_init h this) := by
  refine Ct.intro (own := RX6) (L := [(0, .ref this)]) rfl (by decide) rfl (Nat.le_of_ble_eq_true rfl) fun κ hc hr hq hi hL => ?_
  have hin : IN κ := hi rfl
  have hn : ∀ i, i < 1 → i < κ.2.2.2.2.1 := fun i q => hL ▸ q
  unfold f6_init
  refine v_obj ?_
  refine v_aload_n (i := 0) hc 0 rfl dX6_init_0 rfl ?_
  refine v_objI hc hr (Nat.le_of_ble_eq_true rfl) (Nat.le_of_ble_eq_true rfl) (Nat.le_of_ble_eq_true rfl) (Nat.le_of_ble_eq_true rfl) w_226 w_131 w_132 dX6_init_1 ?_
  refine v_aload_n (i := 0) hc 0 rfl dX6_init_4 rfl ?_
  refine v_sipush (x := (400 : Int32)) hc dX6_init_5 zs_400 ?_
  refine v_newa (at' := .int) 0 400 rfl (by decide) hc hr w_161 (Nat.le_of_ble_eq_true rfl) (Nat.le_of_ble_eq_true rfl) (Nat.le_of_ble_eq_true rfl) dX6_init_8 fun y8 => ?_
  refine v_putF hc hin kX6 0 (by decide) w_227 rfl rfl rfl dX6_init_10 ⟨rfl, rfl⟩ fun h10 => ?_
  refine v_aload_n (i := 0) hc 0 rfl dX6_init_13 rfl ?_
  refine v_iconst (x := (0 : Int32)) hc dX6_init_14 zi_0 ?_
  refine v_put hc kX6 1 (by decide) w_228 rfl rfl dX6_init_15 ⟨rfl, rfl⟩ fun h15 => ?_
  refine v_aload_n (i := 0) hc 0 rfl dX6_init_18 rfl ?_
  refine v_iconst (x := (0 : Int32)) hc dX6_init_19 zi_0 ?_
  refine v_put hc kX6 2 (by decide) w_229 rfl rfl dX6_init_20 ⟨rfl, rfl⟩ fun h20 => ?_
  refine v_aload_n (i := 0) hc 0 rfl dX6_init_23 rfl ?_
  refine v_iconst (x := (0 : Int32)) hc dX6_init_24 zi_0 ?_
  refine v_put hc kX6 3 (by decide) w_230 rfl rfl dX6_init_25 ⟨rfl, rfl⟩ fun h25 => ?_
  refine v_aload_n (i := 0) hc 0 rfl dX6_init_28 rfl ?_
  refine v_bipush (x := (34 : Int32)) hc dX6_init_29 zb_34 ?_
  refine v_put hc kX6 4 (by decide) w_232 rfl rfl dX6_init_31 ⟨rfl, rfl⟩ fun h31 => ?_
  refine v_aload_n (i := 0) hc 0 rfl dX6_init_34 rfl ?_
  refine v_iconst (x := (0 : Int32)) hc dX6_init_35 zi_0 ?_
  refine v_put hc kX6 5 (by decide) w_234 rfl rfl dX6_init_36 ⟨rfl, rfl⟩ fun h36 => ?_
  refine v_aload_n (i := 0) hc 0 rfl dX6_init_39 rfl ?_
  refine v_iconst (x := (0 : Int32)) hc dX6_init_40 zi_0 ?_
  refine v_put hc kX6 6 (by decide) w_236 rfl rfl dX6_init_41 ⟨rfl, rfl⟩ fun h41 => ?_
  exact v_vret hc hq (Nat.le_of_ble_eq_true rfl) (Nat.le_of_ble_eq_true rfl) rfl dX6_init_44
theorem s6_init : YI yX6_init cX6_init 1 0 := ⟨w_225, w_224, w_113, rfl, by decide +kernel, by decide +kernel, by decide +kernel⟩
def f1_init (h : AH) (this : Nat) : Option (AH) := (hObj 1 h this).bind fun _ => (fS 1 0 h this (.null)).bind fun h6 => (fS 1 1 h6 this (.null)).bind fun h11 => (fS 1 2 h11 this (.int (0 : Int32))).bind fun h16 => (fS 1 3 h16 this (.int (0 : Int32))).bind fun h21 => (fS 1 4 h21 this (.int (-1 : Int32))).bind fun h26 => (fS 1 5 h26 this (.int (0 : Int32))).bind fun h31 => (fS 1 6 h31 this (.int (0 : Int32))).bind fun h36 => (fS 1 7 h36 this (.int (0 : Int32))).bind fun h41 => (fS 1 8 h41 this (.int (0 : Int32))).bind fun h46 => (nB 0 400 h46 (400 : Int32)).bind fun y53 => (fS 1 9 y53.2 this (.ref y53.1)).bind fun h55 => (fS 1 10 h55 this (.int (0 : Int32))).bind fun h60 => (fS 1 11 h60 this (.int (0 : Int32))).bind fun h65 => (fS 1 12 h65 this (.int (0 : Int32))).bind fun h70 => some h70
theorem ob1_init {h : AH} {this : Nat} {x : AH} (e : f1_init h this = some x) : ∃ fs, hObj 1 h this = some fs := by
  unfold f1_init at e
  obtain ⟨fs, h1, -⟩ := bd e
  exact ⟨fs, h1⟩
set_option maxRecDepth 100000 in
theorem ct1_init (l : Launch) (D : va_G) (tys : Tys) (base : Nat) (h : AH) (this : Nat) : Ct l D tys base yX1_init cX1_init 1 none 1 12 1 400 [.ref this] h (wV) (f1_init h this) := by
  refine Ct.intro (own := RX1) (L := [(0, .ref this)]) rfl (by decide) rfl (Nat.le_of_ble_eq_true rfl) fun κ hc hr hq hi hL => ?_
  have hin : IN κ := hi rfl
  have hn : ∀ i, i < 1 → i < κ.2.2.2.2.1 := fun i q => hL ▸ q
  unfold f1_init
  refine v_obj ?_
  refine v_aload_n (i := 0) hc 0 rfl dX1_init_0 rfl ?_
  refine v_objI hc hr (Nat.le_of_ble_eq_true rfl) (Nat.le_of_ble_eq_true rfl) (Nat.le_of_ble_eq_true rfl) (Nat.le_of_ble_eq_true rfl) w_258 w_131 w_132 dX1_init_1 ?_
  refine v_aload_n (i := 0) hc 0 rfl dX1_init_4 rfl ?_
  refine v_null hc dX1_init_5 ?_
  refine v_put hc kX1 0 (by decide) w_259 rfl rfl dX1_init_6 ⟨rfl, rfl⟩ fun h6 => ?_
  refine v_aload_n (i := 0) hc 0 rfl dX1_init_9 rfl ?_
  refine v_null hc dX1_init_10 ?_
  refine v_put hc kX1 1 (by decide) w_260 rfl rfl dX1_init_11 ⟨rfl, rfl⟩ fun h11 => ?_
  refine v_aload_n (i := 0) hc 0 rfl dX1_init_14 rfl ?_
  refine v_iconst (x := (0 : Int32)) hc dX1_init_15 zi_0 ?_
  refine v_put hc kX1 2 (by decide) w_261 rfl rfl dX1_init_16 ⟨rfl, rfl⟩ fun h16 => ?_
  refine v_aload_n (i := 0) hc 0 rfl dX1_init_19 rfl ?_
  refine v_iconst (x := (0 : Int32)) hc dX1_init_20 zi_0 ?_
  refine v_put hc kX1 3 (by decide) w_262 rfl rfl dX1_init_21 ⟨rfl, rfl⟩ fun h21 => ?_
  refine v_aload_n (i := 0) hc 0 rfl dX1_init_24 rfl ?_
  refine v_iconst (x := (-1 : Int32)) hc dX1_init_25 zi_m1 ?_
  refine v_put hc kX1 4 (by decide) w_263 rfl rfl dX1_init_26 ⟨rfl, rfl⟩ fun h26 => ?_
  refine v_aload_n (i := 0) hc 0 rfl dX1_init_29 rfl ?_
  refine v_iconst (x := (0 : Int32)) hc dX1_init_30 zi_0 ?_
  refine v_put hc kX1 5 (by decide) w_264 rfl rfl dX1_init_31 ⟨rfl, rfl⟩ fun h31 => ?_
  refine v_aload_n (i := 0) hc 0 rfl dX1_init_34 rfl ?_
  refine v_iconst (x := (0 : Int32)) hc dX1_init_35 zi_0 ?_
  refine v_put hc kX1 6 (by decide) w_265 rfl rfl dX1_init_36 ⟨rfl, rfl⟩ fun h36 => ?_
  refine v_aload_n (i := 0) hc 0 rfl dX1_init_39 rfl ?_
  refine v_iconst (x := (0 : Int32)) hc dX1_init_40 zi_0 ?_
  refine v_put hc kX1 7 (by decide) w_266 rfl rfl dX1_init_41 ⟨rfl, rfl⟩ fun h41 => ?_
  refine v_aload_n (i := 0) hc 0 rfl dX1_init_44 rfl ?_
  refine v_iconst (x := (0 : Int32)) hc dX1_init_45 zi_0 ?_
  refine v_put hc kX1 8 (by decide) w_267 rfl rfl dX1_init_46 ⟨rfl, rfl⟩ fun h46 => ?_
  refine v_aload_n (i := 0) hc 0 rfl dX1_init_49 rfl ?_
  refine v_sipush (x := (400 : Int32)) hc dX1_init_50 zs_400 ?_
  refine v_newa (at' := .int) 0 400 rfl (by decide) hc hr w_161 (Nat.le_of_ble_eq_true rfl) (Nat.le_of_ble_eq_true rfl) (Nat.le_of_ble_eq_true rfl) dX1_init_53 fun y53 => ?_
  refine v_putF hc hin kX1 9 (by decide) w_268 rfl rfl rfl dX1_init_55 ⟨rfl, rfl⟩ fun h55 => ?_
  refine v_aload_n (i := 0) hc 0 rfl dX1_init_58 rfl ?_
  refine v_iconst (x := (0 : Int32)) hc dX1_init_59 zi_0 ?_
  refine v_put hc kX1 10 (by decide) w_269 rfl rfl dX1_init_60 ⟨rfl, rfl⟩ fun h60 => ?_
  refine v_aload_n (i := 0) hc 0 rfl dX1_init_63 rfl ?_
  refine v_iconst (x := (0 : Int32)) hc dX1_init_64 zi_0 ?_
  refine v_put hc kX1 11 (by decide) w_270 rfl rfl dX1_init_65 ⟨rfl, rfl⟩ fun h65 => ?_
  refine v_aload_n (i := 0) hc 0 rfl dX1_init_68 rfl ?_
  refine v_iconst (x := (0 : Int32)) hc dX1_init_69 zi_0 ?_
  refine v_put hc kX1 12 (by decide) w_271 rfl rfl dX1_init_70 ⟨rfl, rfl⟩ fun h70 => ?_
  exact v_vret hc hq (Nat.le_of_ble_eq_true rfl) (Nat.le_of_ble_eq_true rfl) rfl dX1_init_73
theorem s1_init : YI yX1_init cX1_init 1 0 := ⟨w_257, w_256, w_114, rfl, by decide +kernel, by decide +kernel, by decide +kernel⟩
def f4_init (h : AH) (this : Nat) : Option (AH) := (hObj 4 h this).bind fun _ => (nB 0 6 h (6 : Int32)).bind fun y7 => (fS 4 0 y7.2 this (.ref y7.1)).bind fun h9 => (nB 0 6 h9 (6 : Int32)).bind fun y15 => (fS 4 1 y15.2 this (.ref y15.1)).bind fun h17 => (nB 0 6 h17 (6 : Int32)).bind fun y23 => (fS 4 2 y23.2 this (.ref y23.1)).bind fun h25 => (nB 0 6 h25 (6 : Int32)).bind fun y31 => (fS 4 3 y31.2 this (.ref y31.1)).bind fun h33 => (fS 4 4 h33 this (.int (0 : Int32))).bind fun h38 => (nB 1 64 h38 (64 : Int32)).bind fun y44 => (fS 4 5 y44.2 this (.ref y44.1)).bind fun h46 => some h46
theorem ob4_init {h : AH} {this : Nat} {x : AH} (e : f4_init h this = some x) : ∃ fs, hObj 4 h this = some fs := by
  unfold f4_init at e
  obtain ⟨fs, h1, -⟩ := bd e
  exact ⟨fs, h1⟩
set_option maxRecDepth 100000 in
theorem ct4_init (l : Launch) (D : va_G) (tys : Tys) (base : Nat) (h : AH) (this : Nat) : Ct l D tys base yX4_init cX4_init 1 none 1 12 5 88 [.ref this] h (wV) (f4_init h this) := by
  refine Ct.intro (own := RX4) (L := [(0, .ref this)]) rfl (by decide) rfl (Nat.le_of_ble_eq_true rfl) fun κ hc hr hq hi hL => ?_
  have hin : IN κ := hi rfl
  have hn : ∀ i, i < 1 → i < κ.2.2.2.2.1 := fun i q => hL ▸ q
  unfold f4_init
  refine v_obj ?_
  refine v_aload_n (i := 0) hc 0 rfl dX4_init_0 rfl ?_
  refine v_objI hc hr (Nat.le_of_ble_eq_true rfl) (Nat.le_of_ble_eq_true rfl) (Nat.le_of_ble_eq_true rfl) (Nat.le_of_ble_eq_true rfl) w_308 w_131 w_132 dX4_init_1 ?_
  refine v_aload_n (i := 0) hc 0 rfl dX4_init_4 rfl ?_
  refine v_bipush (x := (6 : Int32)) hc dX4_init_5 zb_6 ?_
  refine v_newa (at' := .int) 0 6 rfl (by decide) hc hr w_161 (Nat.le_of_ble_eq_true rfl) (Nat.le_of_ble_eq_true rfl) (Nat.le_of_ble_eq_true rfl) dX4_init_7 fun y7 => ?_
  refine v_putF hc hin kX4 0 (by decide) w_309 rfl rfl rfl dX4_init_9 ⟨rfl, rfl⟩ fun h9 => ?_
  refine v_aload_n (i := 0) hc 0 rfl dX4_init_12 rfl ?_
  refine v_bipush (x := (6 : Int32)) hc dX4_init_13 zb_6 ?_
  refine v_newa (at' := .int) 0 6 rfl (by decide) hc hr w_161 (Nat.le_of_ble_eq_true rfl) (Nat.le_of_ble_eq_true rfl) (Nat.le_of_ble_eq_true rfl) dX4_init_15 fun y15 => ?_
  refine v_putF hc hin kX4 1 (by decide) w_310 rfl rfl rfl dX4_init_17 ⟨rfl, rfl⟩ fun h17 => ?_
  refine v_aload_n (i := 0) hc 0 rfl dX4_init_20 rfl ?_
  refine v_bipush (x := (6 : Int32)) hc dX4_init_21 zb_6 ?_
  refine v_newa (at' := .int) 0 6 rfl (by decide) hc hr w_161 (Nat.le_of_ble_eq_true rfl) (Nat.le_of_ble_eq_true rfl) (Nat.le_of_ble_eq_true rfl) dX4_init_23 fun y23 => ?_
  refine v_putF hc hin kX4 2 (by decide) w_311 rfl rfl rfl dX4_init_25 ⟨rfl, rfl⟩ fun h25 => ?_
  refine v_aload_n (i := 0) hc 0 rfl dX4_init_28 rfl ?_
  refine v_bipush (x := (6 : Int32)) hc dX4_init_29 zb_6 ?_
  refine v_newa (at' := .int) 0 6 rfl (by decide) hc hr w_161 (Nat.le_of_ble_eq_true rfl) (Nat.le_of_ble_eq_true rfl) (Nat.le_of_ble_eq_true rfl) dX4_init_31 fun y31 => ?_
  refine v_putF hc hin kX4 3 (by decide) w_312 rfl rfl rfl dX4_init_33 ⟨rfl, rfl⟩ fun h33 => ?_
  refine v_aload_n (i := 0) hc 0 rfl dX4_init_36 rfl ?_
  refine v_iconst (x := (0 : Int32)) hc dX4_init_37 zi_0 ?_
  refine v_put hc kX4 4 (by decide) w_313 rfl rfl dX4_init_38 ⟨rfl, rfl⟩ fun h38 => ?_
  refine v_aload_n (i := 0) hc 0 rfl dX4_init_41 rfl ?_
  refine v_bipush (x := (64 : Int32)) hc dX4_init_42 zb_64 ?_
  refine v_newa (at' := .long) 1 64 rfl (by decide) hc hr w_328 (Nat.le_of_ble_eq_true rfl) (Nat.le_of_ble_eq_true rfl) (Nat.le_of_ble_eq_true rfl) dX4_init_44 fun y44 => ?_
  refine v_putF hc hin kX4 5 (by decide) w_314 rfl rfl rfl dX4_init_46 ⟨rfl, rfl⟩ fun h46 => ?_
  exact v_vret hc hq (Nat.le_of_ble_eq_true rfl) (Nat.le_of_ble_eq_true rfl) rfl dX4_init_49
theorem s4_init : YI yX4_init cX4_init 1 0 := ⟨w_307, w_306, w_115, rfl, by decide +kernel, by decide +kernel, by decide +kernel⟩
def f3_init (h : AH) (this : Nat) : Option (AH) := (hObj 3 h this).bind fun _ => (fS 3 0 h this (.int (1 : Int32))).bind fun h6 => (fS 3 1 h6 this (.int (1 : Int32))).bind fun h11 => (nB 0 400 h11 (400 : Int32)).bind fun y18 => (fS 3 2 y18.2 this (.ref y18.1)).bind fun h20 => (fS 3 3 h20 this (.int (0 : Int32))).bind fun h25 => (nB 1 60 h25 (60 : Int32)).bind fun y31 => (fS 3 4 y31.2 this (.ref y31.1)).bind fun h33 => (fS 3 5 h33 this (.int (0 : Int32))).bind fun h38 => some h38
theorem ob3_init {h : AH} {this : Nat} {x : AH} (e : f3_init h this = some x) : ∃ fs, hObj 3 h this = some fs := by
  unfold f3_init at e
  obtain ⟨fs, h1, -⟩ := bd e
  exact ⟨fs, h1⟩
set_option maxRecDepth 100000 in
theorem ct3_init (l : Launch) (D : va_G) (tys : Tys) (base : Nat) (h : AH) (this : Nat) : Ct l D tys base yX3_init cX3_init 1 none 1 12 2 460 [.ref this] h (wV) (f3_init h this) := by
  refine Ct.intro (own := RX3) (L := [(0, .ref this)]) rfl (by decide) rfl (Nat.le_of_ble_eq_true rfl) fun κ hc hr hq hi hL => ?_
  have hin : IN κ := hi rfl
  have hn : ∀ i, i < 1 → i < κ.2.2.2.2.1 := fun i q => hL ▸ q
  unfold f3_init
  refine v_obj ?_
  refine v_aload_n (i := 0) hc 0 rfl dX3_init_0 rfl ?_
  refine v_objI hc hr (Nat.le_of_ble_eq_true rfl) (Nat.le_of_ble_eq_true rfl) (Nat.le_of_ble_eq_true rfl) (Nat.le_of_ble_eq_true rfl) w_333 w_131 w_132 dX3_init_1 ?_
  refine v_aload_n (i := 0) hc 0 rfl dX3_init_4 rfl ?_
  refine v_iconst (x := (1 : Int32)) hc dX3_init_5 zi_1 ?_
  refine v_put hc kX3 0 (by decide) w_334 rfl rfl dX3_init_6 ⟨rfl, rfl⟩ fun h6 => ?_
  refine v_aload_n (i := 0) hc 0 rfl dX3_init_9 rfl ?_
  refine v_iconst (x := (1 : Int32)) hc dX3_init_10 zi_1 ?_
  refine v_put hc kX3 1 (by decide) w_336 rfl rfl dX3_init_11 ⟨rfl, rfl⟩ fun h11 => ?_
  refine v_aload_n (i := 0) hc 0 rfl dX3_init_14 rfl ?_
  refine v_sipush (x := (400 : Int32)) hc dX3_init_15 zs_400 ?_
  refine v_newa (at' := .int) 0 400 rfl (by decide) hc hr w_161 (Nat.le_of_ble_eq_true rfl) (Nat.le_of_ble_eq_true rfl) (Nat.le_of_ble_eq_true rfl) dX3_init_18 fun y18 => ?_
  refine v_putF hc hin kX3 2 (by decide) w_338 rfl rfl rfl dX3_init_20 ⟨rfl, rfl⟩ fun h20 => ?_
  refine v_aload_n (i := 0) hc 0 rfl dX3_init_23 rfl ?_
  refine v_iconst (x := (0 : Int32)) hc dX3_init_24 zi_0 ?_
  refine v_put hc kX3 3 (by decide) w_339 rfl rfl dX3_init_25 ⟨rfl, rfl⟩ fun h25 => ?_
  refine v_aload_n (i := 0) hc 0 rfl dX3_init_28 rfl ?_
  refine v_bipush (x := (60 : Int32)) hc dX3_init_29 zb_60 ?_
  refine v_newa (at' := .long) 1 60 rfl (by decide) hc hr w_328 (Nat.le_of_ble_eq_true rfl) (Nat.le_of_ble_eq_true rfl) (Nat.le_of_ble_eq_true rfl) dX3_init_31 fun y31 => ?_
  refine v_putF hc hin kX3 4 (by decide) w_340 rfl rfl rfl dX3_init_33 ⟨rfl, rfl⟩ fun h33 => ?_
  refine v_aload_n (i := 0) hc 0 rfl dX3_init_36 rfl ?_
  refine v_iconst (x := (0 : Int32)) hc dX3_init_37 zi_0 ?_
  refine v_put hc kX3 5 (by decide) w_341 rfl rfl dX3_init_38 ⟨rfl, rfl⟩ fun h38 => ?_
  exact v_vret hc hq (Nat.le_of_ble_eq_true rfl) (Nat.le_of_ble_eq_true rfl) rfl dX3_init_41
theorem s3_init : YI yX3_init cX3_init 1 0 := ⟨w_332, w_331, w_116, rfl, by decide +kernel, by decide +kernel, by decide +kernel⟩
def f0_init (h : AH) (this : Nat) : Option (AH) := (hObj 0 h this).bind fun _ => (fS 0 0 h this (.int (1 : Int32))).bind fun h6 => (fS 0 1 h6 this (.int (0 : Int32))).bind fun h11 => (fS 0 2 h11 this (.int (0 : Int32))).bind fun h16 => (nB 0 12 h16 (12 : Int32)).bind fun y22 => (fS 0 3 y22.2 this (.ref y22.1)).bind fun h24 => (fS 0 4 h24 this (.int (0 : Int32))).bind fun h29 => some h29
theorem ob0_init {h : AH} {this : Nat} {x : AH} (e : f0_init h this = some x) : ∃ fs, hObj 0 h this = some fs := by
  unfold f0_init at e
  obtain ⟨fs, h1, -⟩ := bd e
  exact ⟨fs, h1⟩
set_option maxRecDepth 100000 in
theorem ct0_init (l : Launch) (D : va_G) (tys : Tys) (base : Nat) (h : AH) (this : Nat) : Ct l D tys base yX0_init cX0_init 1 none 1 12 1 12 [.ref this] h (wV) (f0_init h this) := by
  refine Ct.intro (own := RX0) (L := [(0, .ref this)]) rfl (by decide) rfl (Nat.le_of_ble_eq_true rfl) fun κ hc hr hq hi hL => ?_
  have hin : IN κ := hi rfl
  have hn : ∀ i, i < 1 → i < κ.2.2.2.2.1 := fun i q => hL ▸ q
  unfold f0_init
  refine v_obj ?_
  refine v_aload_n (i := 0) hc 0 rfl dX0_init_0 rfl ?_
  refine v_objI hc hr (Nat.le_of_ble_eq_true rfl) (Nat.le_of_ble_eq_true rfl) (Nat.le_of_ble_eq_true rfl) (Nat.le_of_ble_eq_true rfl) w_359 w_131 w_132 dX0_init_1 ?_
  refine v_aload_n (i := 0) hc 0 rfl dX0_init_4 rfl ?_
  refine v_iconst (x := (1 : Int32)) hc dX0_init_5 zi_1 ?_
  refine v_put hc kX0 0 (by decide) w_360 rfl rfl dX0_init_6 ⟨rfl, rfl⟩ fun h6 => ?_
  refine v_aload_n (i := 0) hc 0 rfl dX0_init_9 rfl ?_
  refine v_iconst (x := (0 : Int32)) hc dX0_init_10 zi_0 ?_
  refine v_put hc kX0 1 (by decide) w_362 rfl rfl dX0_init_11 ⟨rfl, rfl⟩ fun h11 => ?_
  refine v_aload_n (i := 0) hc 0 rfl dX0_init_14 rfl ?_
  refine v_iconst (x := (0 : Int32)) hc dX0_init_15 zi_0 ?_
  refine v_put hc kX0 2 (by decide) w_363 rfl rfl dX0_init_16 ⟨rfl, rfl⟩ fun h16 => ?_
  refine v_aload_n (i := 0) hc 0 rfl dX0_init_19 rfl ?_
  refine v_bipush (x := (12 : Int32)) hc dX0_init_20 zb_12 ?_
  refine v_newa (at' := .int) 0 12 rfl (by decide) hc hr w_161 (Nat.le_of_ble_eq_true rfl) (Nat.le_of_ble_eq_true rfl) (Nat.le_of_ble_eq_true rfl) dX0_init_22 fun y22 => ?_
  refine v_putF hc hin kX0 3 (by decide) w_365 rfl rfl rfl dX0_init_24 ⟨rfl, rfl⟩ fun h24 => ?_
  refine v_aload_n (i := 0) hc 0 rfl dX0_init_27 rfl ?_
  refine v_iconst (x := (0 : Int32)) hc dX0_init_28 zi_0 ?_
  refine v_put hc kX0 4 (by decide) w_366 rfl rfl dX0_init_29 ⟨rfl, rfl⟩ fun h29 => ?_
  exact v_vret hc hq (Nat.le_of_ble_eq_true rfl) (Nat.le_of_ble_eq_true rfl) rfl dX0_init_32
theorem s0_init : YI yX0_init cX0_init 1 0 := ⟨w_358, w_357, w_117, rfl, by decide +kernel, by decide +kernel, by decide +kernel⟩
def f6_size (h : AH) (this : Nat) : Option (Int32) := (hObj 6 h this).bind fun _ => (fI 6 1 h this).bind fun x1 => some x1
theorem ob6_size {h : AH} {this : Nat} {x : Int32} (e : f6_size h this = some x) : ∃ fs, hObj 6 h this = some fs := by
  unfold f6_size at e
  obtain ⟨fs, h1, -⟩ := bd e
  exact ⟨fs, h1⟩
set_option maxRecDepth 100000 in
theorem ct6_size (l : Launch) (D : va_G) (tys : Tys) (base : Nat) (h : AH) (this : Nat) : Ct l D tys base yX6_size cX6_size 1 (some .int) 0 0 0 0 [.ref this] h (rI h) (f6_size h this) := by
  refine Ct.intro (own := RX6) (L := [(0, .ref this)]) rfl (by decide) rfl (Nat.le_of_ble_eq_true rfl) fun κ hc hr hq hi hL => ?_
  have hn : ∀ i, i < 1 → i < κ.2.2.2.2.1 := fun i q => hL ▸ q
  unfold f6_size
  refine v_obj ?_
  refine v_aload_n (i := 0) hc 0 rfl dX6_size_0 rfl ?_
  refine v_getV hc kX6 1 (by decide) w_228 rfl dX6_size_1 (gI rfl fun x1 => ?_)
  exact v_iret hc hq rfl rfl (Nat.le_of_ble_eq_true rfl) (Nat.le_of_ble_eq_true rfl) rfl dX6_size_4
theorem s6_size : YV yX6_size RX6 cX6_size 1 (some .int) 0 := ⟨w_575, w_573, w_574, w_113, rfl, by decide +kernel, by decide +kernel, by decide +kernel⟩
def f6_addFour_3 (v0 : Nat) (v1 : Int32) : Nat → AH → Int32 → Option (AH)
  | 0, _, _ => none
  | n + 1, h, v2 => (if v2 < 0 then some h else (fI 6 1 h v0).bind fun x8 => (if x8 < 0 then (some (v2 + (-8 : Int32))).bind fun x52 => f6_addFour_3 v0 v1 n h x52 else (fI 6 1 h v0).bind fun x15 => (fR 6 0 h v0).bind fun x19 => (aN h x19).bind fun x22 => (if x22 ≤ x15 then (some (v2 + (-8 : Int32))).bind fun x52 => f6_addFour_3 v0 v1 n h x52 else (fR 6 0 h v0).bind fun x27 => (fI 6 1 h v0).bind fun x31 => (sI 0 h x27 x31 ((v1 >>> (v2 &&& 31)) &&& (255 : Int32))).bind fun h41 => (fI 6 1 h41 v0).bind fun x44 => (fS 6 1 h41 v0 (.int (x44 + (1 : Int32)))).bind fun h49 => (some (v2 + (-8 : Int32))).bind fun x52 => f6_addFour_3 v0 v1 n h49 x52)))
set_option maxRecDepth 100000 in
theorem vl6_addFour_3 {κ : Kx} (hc : CX κ RX6 cX6_addFour) (hr : RX κ ({ frames := 0, cells := 0, slots := 0, locals := 0 } : Room)) (hq : QX κ none 0 0) (hL : 3 = κ.2.2.2.2.1)  (v0 : Nat) (v1 : Int32) : ∀ n (h : AH) (v2 : Int32), V κ (wV) 0 0 3 [(0, .ref v0), (1, .int v1), (2, .int v2)] [] h (f6_addFour_3 v0 v1 n h v2) := by
  have hn : ∀ i, i < 3 → i < κ.2.2.2.2.1 := fun i q => hL ▸ q
  intro n
  induction n with
  | zero => intros; exact v_none
  | succ n ih =>
    intro h v2
    rw [f6_addFour_3.eq_2]
    refine v_iload_n (i := 2) hc 2 rfl dX6_addFour_3 rfl ?_
    refine v_if_lt hc 58 dX6_addFour_4 rfl ?_ ?_
    · exact v_vret hc hq (Nat.le_of_ble_eq_true rfl) (Nat.le_of_ble_eq_true rfl) rfl dX6_addFour_58
    · refine v_aload_n (i := 0) hc 0 rfl dX6_addFour_7 rfl ?_
      refine v_getV hc kX6 1 (by decide) w_228 rfl dX6_addFour_8 (gI rfl fun x8 => ?_)
      refine v_if_lt hc 52 dX6_addFour_11 rfl ?_ ?_
      · refine v_iincN (i := 2) (y := (-8 : Int32)) (L' := fun z => [(2, .int z), (0, .ref v0), (1, .int v1)]) hc 2 rfl dX6_addFour_52 zi_m8 (hn 2 (Nat.le_of_ble_eq_true rfl)) (fun _ => rfl) fun x52 => ?_
        refine v_goto hc 3 dX6_addFour_55 rfl ?_
        refine v_sub (L' := [(0, .ref v0), (1, .int v1), (2, .int x52)]) [1, 2, 0] rfl ?_
        exact ih h x52
      · refine v_aload_n (i := 0) hc 0 rfl dX6_addFour_14 rfl ?_
        refine v_getV hc kX6 1 (by decide) w_228 rfl dX6_addFour_15 (gI rfl fun x15 => ?_)
        refine v_aload_n (i := 0) hc 0 rfl dX6_addFour_18 rfl ?_
        refine v_getV hc kX6 0 (by decide) w_227 rfl dX6_addFour_19 (gR rfl fun x19 => ?_)
        refine v_alen hc dX6_addFour_22 fun x22 => ?_
        refine v_icmp_ge hc 52 dX6_addFour_23 rfl ?_ ?_
        · refine v_iincN (i := 2) (y := (-8 : Int32)) (L' := fun z => [(2, .int z), (0, .ref v0), (1, .int v1)]) hc 2 rfl dX6_addFour_52 zi_m8 (hn 2 (Nat.le_of_ble_eq_true rfl)) (fun _ => rfl) fun x52 => ?_
          refine v_goto hc 3 dX6_addFour_55 rfl ?_
          refine v_sub (L' := [(0, .ref v0), (1, .int v1), (2, .int x52)]) [1, 2, 0] rfl ?_
          exact ih h x52
        · refine v_aload_n (i := 0) hc 0 rfl dX6_addFour_26 rfl ?_
          refine v_getV hc kX6 0 (by decide) w_227 rfl dX6_addFour_27 (gR rfl fun x27 => ?_)
          refine v_aload_n (i := 0) hc 0 rfl dX6_addFour_30 rfl ?_
          refine v_getV hc kX6 1 (by decide) w_228 rfl dX6_addFour_31 (gI rfl fun x31 => ?_)
          refine v_iload_n (i := 1) hc 1 rfl dX6_addFour_34 rfl ?_
          refine v_iload_n (i := 2) hc 2 rfl dX6_addFour_35 rfl ?_
          refine v_ishr hc dX6_addFour_36 ?_
          refine v_sipush (x := (255 : Int32)) hc dX6_addFour_37 zs_255 ?_
          refine v_iand hc dX6_addFour_40 ?_
          refine v_iast hc dX6_addFour_41 fun h41 => ?_
          refine v_aload_n (i := 0) hc 0 rfl dX6_addFour_42 rfl ?_
          refine v_dup hc dX6_addFour_43 rfl ?_
          refine v_getV hc kX6 1 (by decide) w_228 rfl dX6_addFour_44 (gI rfl fun x44 => ?_)
          refine v_iconst (x := (1 : Int32)) hc dX6_addFour_47 zi_1 ?_
          refine v_iadd hc dX6_addFour_48 ?_
          refine v_put hc kX6 1 (by decide) w_228 rfl rfl dX6_addFour_49 ⟨rfl, rfl⟩ fun h49 => ?_
          refine v_iincN (i := 2) (y := (-8 : Int32)) (L' := fun z => [(2, .int z), (0, .ref v0), (1, .int v1)]) hc 2 rfl dX6_addFour_52 zi_m8 (hn 2 (Nat.le_of_ble_eq_true rfl)) (fun _ => rfl) fun x52 => ?_
          refine v_goto hc 3 dX6_addFour_55 rfl ?_
          refine v_sub (L' := [(0, .ref v0), (1, .int v1), (2, .int x52)]) [1, 2, 0] rfl ?_
          exact ih h49 x52
def f6_addFour (h : AH) (this : Nat) (p0 : Int32) : Option (AH) := (hObj 6 h this).bind fun _ => f6_addFour_3 this p0 FU h (24 : Int32)
theorem ob6_addFour {h : AH} {this : Nat} {p0 : Int32} {x : AH} (e : f6_addFour h this p0 = some x) : ∃ fs, hObj 6 h this = some fs := by
  unfold f6_addFour at e
  obtain ⟨fs, h1, -⟩ := bd e
  exact ⟨fs, h1⟩
set_option maxRecDepth 100000 in
theorem ct6_addFour (l : Launch) (D : va_G) (tys : Tys) (base : Nat) (h : AH) (this : Nat) (p0 : Int32) : Ct l D tys base yX6_addFour cX6_addFour 3 none 0 0 0 0 [.ref this, .int p0] h (wV) (f6_addFour h this p0) := by
  refine Ct.intro (own := RX6) (L := [(0, .ref this), (1, .int p0)]) rfl (by decide) rfl (Nat.le_of_ble_eq_true rfl) fun κ hc hr hq hi hL => ?_
  have hn : ∀ i, i < 3 → i < κ.2.2.2.2.1 := fun i q => hL ▸ q
  unfold f6_addFour
  refine v_obj ?_
  refine v_bipush (x := (24 : Int32)) hc dX6_addFour_0 zb_24 ?_
  refine v_istore_n (i := 2) (L' := [(2, .int (24 : Int32)), (0, .ref this), (1, .int p0)]) hc dX6_addFour_2 rfl (hn 2 (Nat.le_of_ble_eq_true rfl)) rfl ?_
  refine v_sub (L' := [(0, .ref this), (1, .int p0), (2, .int (24 : Int32))]) [1, 2, 0] rfl ?_
  exact vl6_addFour_3 hc hr hq hL this p0 FU h (24 : Int32)
theorem s6_addFour : YV yX6_addFour RX6 cX6_addFour 3 none 1 := ⟨w_579, w_577, w_578, w_113, rfl, by decide +kernel, by decide +kernel, by decide +kernel⟩
def f6_cut (h : AH) (this : Nat) (p0 : Int32) : Option (AH) := (hObj 6 h this).bind fun _ => (if p0 < 0 then some h else (fI 6 1 h this).bind fun x6 => (if x6 < p0 then some h else (fS 6 1 h this (.int p0)).bind fun h14 => some h14))
theorem ob6_cut {h : AH} {this : Nat} {p0 : Int32} {x : AH} (e : f6_cut h this p0 = some x) : ∃ fs, hObj 6 h this = some fs := by
  unfold f6_cut at e
  obtain ⟨fs, h1, -⟩ := bd e
  exact ⟨fs, h1⟩
set_option maxRecDepth 100000 in
theorem ct6_cut (l : Launch) (D : va_G) (tys : Tys) (base : Nat) (h : AH) (this : Nat) (p0 : Int32) : Ct l D tys base yX6_cut cX6_cut 2 none 0 0 0 0 [.ref this, .int p0] h (wV) (f6_cut h this p0) := by
  refine Ct.intro (own := RX6) (L := [(0, .ref this), (1, .int p0)]) rfl (by decide) rfl (Nat.le_of_ble_eq_true rfl) fun κ hc hr hq hi hL => ?_
  have hn : ∀ i, i < 2 → i < κ.2.2.2.2.1 := fun i q => hL ▸ q
  unfold f6_cut
  refine v_obj ?_
  refine v_iload_n (i := 1) hc 1 rfl dX6_cut_0 rfl ?_
  refine v_if_lt hc 17 dX6_cut_1 rfl ?_ ?_
  · exact v_vret hc hq (Nat.le_of_ble_eq_true rfl) (Nat.le_of_ble_eq_true rfl) rfl dX6_cut_17
  · refine v_iload_n (i := 1) hc 1 rfl dX6_cut_4 rfl ?_
    refine v_aload_n (i := 0) hc 0 rfl dX6_cut_5 rfl ?_
    refine v_getV hc kX6 1 (by decide) w_228 rfl dX6_cut_6 (gI rfl fun x6 => ?_)
    refine v_icmp_gt hc 17 dX6_cut_9 rfl ?_ ?_
    · exact v_vret hc hq (Nat.le_of_ble_eq_true rfl) (Nat.le_of_ble_eq_true rfl) rfl dX6_cut_17
    · refine v_aload_n (i := 0) hc 0 rfl dX6_cut_12 rfl ?_
      refine v_iload_n (i := 1) hc 1 rfl dX6_cut_13 rfl ?_
      refine v_put hc kX6 1 (by decide) w_228 rfl rfl dX6_cut_14 ⟨rfl, rfl⟩ fun h14 => ?_
      exact v_vret hc hq (Nat.le_of_ble_eq_true rfl) (Nat.le_of_ble_eq_true rfl) rfl dX6_cut_17
theorem s6_cut : YV yX6_cut RX6 cX6_cut 2 none 1 := ⟨w_587, w_585, w_586, w_113, rfl, by decide +kernel, by decide +kernel, by decide +kernel⟩
def f3_clear (h : AH) (this : Nat) : Option (AH) := (hObj 3 h this).bind fun _ => (fS 3 0 h this (.int (1 : Int32))).bind fun h2 => (fS 3 1 h2 this (.int (1 : Int32))).bind fun h7 => (fS 3 3 h7 this (.int (0 : Int32))).bind fun h12 => some h12
theorem ob3_clear {h : AH} {this : Nat} {x : AH} (e : f3_clear h this = some x) : ∃ fs, hObj 3 h this = some fs := by
  unfold f3_clear at e
  obtain ⟨fs, h1, -⟩ := bd e
  exact ⟨fs, h1⟩
set_option maxRecDepth 100000 in
theorem ct3_clear (l : Launch) (D : va_G) (tys : Tys) (base : Nat) (h : AH) (this : Nat) : Ct l D tys base yX3_clear cX3_clear 1 none 0 0 0 0 [.ref this] h (wV) (f3_clear h this) := by
  refine Ct.intro (own := RX3) (L := [(0, .ref this)]) rfl (by decide) rfl (Nat.le_of_ble_eq_true rfl) fun κ hc hr hq hi hL => ?_
  have hn : ∀ i, i < 1 → i < κ.2.2.2.2.1 := fun i q => hL ▸ q
  unfold f3_clear
  refine v_obj ?_
  refine v_aload_n (i := 0) hc 0 rfl dX3_clear_0 rfl ?_
  refine v_iconst (x := (1 : Int32)) hc dX3_clear_1 zi_1 ?_
  refine v_put hc kX3 0 (by decide) w_334 rfl rfl dX3_clear_2 ⟨rfl, rfl⟩ fun h2 => ?_
  refine v_aload_n (i := 0) hc 0 rfl dX3_clear_5 rfl ?_
  refine v_iconst (x := (1 : Int32)) hc dX3_clear_6 zi_1 ?_
  refine v_put hc kX3 1 (by decide) w_336 rfl rfl dX3_clear_7 ⟨rfl, rfl⟩ fun h7 => ?_
  refine v_aload_n (i := 0) hc 0 rfl dX3_clear_10 rfl ?_
  refine v_iconst (x := (0 : Int32)) hc dX3_clear_11 zi_0 ?_
  refine v_put hc kX3 3 (by decide) w_339 rfl rfl dX3_clear_12 ⟨rfl, rfl⟩ fun h12 => ?_
  exact v_vret hc hq (Nat.le_of_ble_eq_true rfl) (Nat.le_of_ble_eq_true rfl) rfl dX3_clear_15
theorem s3_clear : YV yX3_clear RX3 cX3_clear 1 none 0 := ⟨w_603, w_601, w_602, w_116, rfl, by decide +kernel, by decide +kernel, by decide +kernel⟩
def f0_clear (h : AH) (this : Nat) : Option (AH) := (hObj 0 h this).bind fun _ => (fS 0 0 h this (.int (1 : Int32))).bind fun h2 => (fS 0 1 h2 this (.int (0 : Int32))).bind fun h7 => (fS 0 2 h7 this (.int (0 : Int32))).bind fun h12 => (fS 0 4 h12 this (.int (0 : Int32))).bind fun h17 => some h17
theorem ob0_clear {h : AH} {this : Nat} {x : AH} (e : f0_clear h this = some x) : ∃ fs, hObj 0 h this = some fs := by
  unfold f0_clear at e
  obtain ⟨fs, h1, -⟩ := bd e
  exact ⟨fs, h1⟩
set_option maxRecDepth 100000 in
theorem ct0_clear (l : Launch) (D : va_G) (tys : Tys) (base : Nat) (h : AH) (this : Nat) : Ct l D tys base yX0_clear cX0_clear 1 none 0 0 0 0 [.ref this] h (wV) (f0_clear h this) := by
  refine Ct.intro (own := RX0) (L := [(0, .ref this)]) rfl (by decide) rfl (Nat.le_of_ble_eq_true rfl) fun κ hc hr hq hi hL => ?_
  have hn : ∀ i, i < 1 → i < κ.2.2.2.2.1 := fun i q => hL ▸ q
  unfold f0_clear
  refine v_obj ?_
  refine v_aload_n (i := 0) hc 0 rfl dX0_clear_0 rfl ?_
  refine v_iconst (x := (1 : Int32)) hc dX0_clear_1 zi_1 ?_
  refine v_put hc kX0 0 (by decide) w_360 rfl rfl dX0_clear_2 ⟨rfl, rfl⟩ fun h2 => ?_
  refine v_aload_n (i := 0) hc 0 rfl dX0_clear_5 rfl ?_
  refine v_iconst (x := (0 : Int32)) hc dX0_clear_6 zi_0 ?_
  refine v_put hc kX0 1 (by decide) w_362 rfl rfl dX0_clear_7 ⟨rfl, rfl⟩ fun h7 => ?_
  refine v_aload_n (i := 0) hc 0 rfl dX0_clear_10 rfl ?_
  refine v_iconst (x := (0 : Int32)) hc dX0_clear_11 zi_0 ?_
  refine v_put hc kX0 2 (by decide) w_363 rfl rfl dX0_clear_12 ⟨rfl, rfl⟩ fun h12 => ?_
  refine v_aload_n (i := 0) hc 0 rfl dX0_clear_15 rfl ?_
  refine v_iconst (x := (0 : Int32)) hc dX0_clear_16 zi_0 ?_
  refine v_put hc kX0 4 (by decide) w_366 rfl rfl dX0_clear_17 ⟨rfl, rfl⟩ fun h17 => ?_
  exact v_vret hc hq (Nat.le_of_ble_eq_true rfl) (Nat.le_of_ble_eq_true rfl) rfl dX0_clear_20
theorem s0_clear : YV yX0_clear RX0 cX0_clear 1 none 0 := ⟨w_607, w_605, w_606, w_117, rfl, by decide +kernel, by decide +kernel, by decide +kernel⟩
def f1_begin_38 (h : AH) (v0 : Nat) : Option (AH) := (fS 1 2 h v0 (.int (0 : Int32))).bind fun h40 => (fS 1 5 h40 v0 (.int (0 : Int32))).bind fun h45 => (fS 1 6 h45 v0 (.int (0 : Int32))).bind fun h50 => (fS 1 7 h50 v0 (.int (0 : Int32))).bind fun h55 => (fS 1 8 h55 v0 (.int (0 : Int32))).bind fun h60 => some h60
set_option maxRecDepth 100000 in
theorem vl1_begin_38 {κ : Kx} (hc : CX κ RX1 cX1_begin) (hr : RX κ ({ frames := 1, cells := 0, slots := 0, locals := 20 } : Room)) (hq : QX κ none 0 0) (hL : 3 = κ.2.2.2.2.1) (h : AH) (v0 : Nat) : V κ (wV) 0 0 38 [(0, .ref v0)] [] h (f1_begin_38 h v0) := by
  have hn : ∀ i, i < 3 → i < κ.2.2.2.2.1 := fun i q => hL ▸ q
  unfold f1_begin_38
  refine v_aload_n (i := 0) hc 0 rfl dX1_begin_38 rfl ?_
  refine v_iconst (x := (0 : Int32)) hc dX1_begin_39 zi_0 ?_
  refine v_put hc kX1 2 (by decide) w_261 rfl rfl dX1_begin_40 ⟨rfl, rfl⟩ fun h40 => ?_
  refine v_aload_n (i := 0) hc 0 rfl dX1_begin_43 rfl ?_
  refine v_iconst (x := (0 : Int32)) hc dX1_begin_44 zi_0 ?_
  refine v_put hc kX1 5 (by decide) w_264 rfl rfl dX1_begin_45 ⟨rfl, rfl⟩ fun h45 => ?_
  refine v_aload_n (i := 0) hc 0 rfl dX1_begin_48 rfl ?_
  refine v_iconst (x := (0 : Int32)) hc dX1_begin_49 zi_0 ?_
  refine v_put hc kX1 6 (by decide) w_265 rfl rfl dX1_begin_50 ⟨rfl, rfl⟩ fun h50 => ?_
  refine v_aload_n (i := 0) hc 0 rfl dX1_begin_53 rfl ?_
  refine v_iconst (x := (0 : Int32)) hc dX1_begin_54 zi_0 ?_
  refine v_put hc kX1 7 (by decide) w_266 rfl rfl dX1_begin_55 ⟨rfl, rfl⟩ fun h55 => ?_
  refine v_aload_n (i := 0) hc 0 rfl dX1_begin_58 rfl ?_
  refine v_iconst (x := (0 : Int32)) hc dX1_begin_59 zi_0 ?_
  refine v_put hc kX1 8 (by decide) w_267 rfl rfl dX1_begin_60 ⟨rfl, rfl⟩ fun h60 => ?_
  exact v_vret hc hq (Nat.le_of_ble_eq_true rfl) (Nat.le_of_ble_eq_true rfl) rfl dX1_begin_63
def f1_begin (h : AH) (this : Nat) (p0 : Option Nat) (p1 : Option Nat) : Option (AH) := (hObj 1 h this).bind fun _ => (fS 1 0 h this (va_rf p0)).bind fun h2 => (fS 1 1 h2 this (va_rf p1)).bind fun h7 => (fQ 1 0 h7 this).bind fun x11 => (oM x11 ((fQ 1 1 h7 this).bind fun x25 => (oM x25 (f1_begin_38 h7 this) fun a28 => (fQ 1 1 h7 this).bind fun x32 => (x32).bind fun b35 => (f0_clear h7 b35).bind fun x35 => f1_begin_38 x35 this)) fun a14 => (fQ 1 0 h7 this).bind fun x18 => (x18).bind fun b21 => (f3_clear h7 b21).bind fun x21 => (fQ 1 1 x21 this).bind fun x25 => (oM x25 (f1_begin_38 x21 this) fun a28 => (fQ 1 1 x21 this).bind fun x32 => (x32).bind fun b35 => (f0_clear x21 b35).bind fun x35 => f1_begin_38 x35 this))
theorem ob1_begin {h : AH} {this : Nat} {p0 : Option Nat} {p1 : Option Nat} {x : AH} (e : f1_begin h this p0 p1 = some x) : ∃ fs, hObj 1 h this = some fs := by
  unfold f1_begin at e
  obtain ⟨fs, h1, -⟩ := bd e
  exact ⟨fs, h1⟩
set_option maxRecDepth 100000 in
theorem ct1_begin (l : Launch) (D : va_G) (tys : Tys) (base : Nat) (h : AH) (this : Nat) (p0 : Option Nat) (p1 : Option Nat) : Ct l D tys base yX1_begin cX1_begin 3 none 1 20 0 0 [.ref this, va_rf p0, va_rf p1] h (wV) (f1_begin h this p0 p1) := by
  refine Ct.intro (own := RX1) (L := [(0, .ref this), (1, va_rf p0), (2, va_rf p1)]) rfl (by decide) (by cases p0 <;> cases p1 <;> rfl) (by cases p0 <;> cases p1 <;> exact Nat.le_of_ble_eq_true rfl) fun κ hc hr hq hi hL => ?_
  have hn : ∀ i, i < 3 → i < κ.2.2.2.2.1 := fun i q => hL ▸ q
  unfold f1_begin
  refine v_obj ?_
  refine v_aload_n (i := 0) hc 0 rfl dX1_begin_0 rfl ?_
  refine v_aloadq_n (i := 1) (x := p0) hc 1 rfl dX1_begin_1 rfl ?_
  refine v_put hc kX1 0 (by decide) w_259 rfl rfl dX1_begin_2 (vfit_q p0) fun h2 => ?_
  refine v_aload_n (i := 0) hc 0 rfl dX1_begin_5 rfl ?_
  refine v_aloadq_n (i := 2) (x := p1) hc 2 rfl dX1_begin_6 rfl ?_
  refine v_put hc kX1 1 (by decide) w_260 rfl rfl dX1_begin_7 (vfit_q p1) fun h7 => ?_
  refine v_aload_n (i := 0) hc 0 rfl dX1_begin_10 rfl ?_
  refine v_getV hc kX1 0 (by decide) w_259 rfl dX1_begin_11 (gQ rfl fun x11 => ?_)
  refine v_ifnull hc 24 dX1_begin_14 rfl ?_ ?_
  · intro hx14
    subst hx14
    refine v_aload_n (i := 0) hc 0 rfl dX1_begin_24 rfl ?_
    refine v_getV hc kX1 1 (by decide) w_260 rfl dX1_begin_25 (gQ rfl fun x25 => ?_)
    refine v_ifnull hc 38 dX1_begin_28 rfl ?_ ?_
    · intro hx28
      subst hx28
      refine v_sub (L' := [(0, .ref this)]) [0] rfl ?_
      exact vl1_begin_38 hc hr hq hL h7 this
    · intro a28 hx28
      subst hx28
      refine v_aload_n (i := 0) hc 0 rfl dX1_begin_31 rfl ?_
      refine v_getV hc kX1 1 (by decide) w_260 rfl dX1_begin_32 (gQ rfl fun x32 => ?_)
      refine v_nn fun b35 hb35 => ?_
      subst hb35
      refine v_cV hc (m_V' (As := []) (b := b35) (rest := []) 0 hc hr (fun l D tys base => ct0_clear l D tys base h7 b35) (fun x hx => ob0_clear hx) rfl s0_clear w_604 rfl ⟨Nat.le_of_ble_eq_true rfl, Nat.le_of_ble_eq_true rfl⟩ ⟨Nat.le_of_ble_eq_true rfl, Nat.le_of_ble_eq_true rfl⟩ (Nat.le_of_ble_eq_true rfl) dX1_begin_35) fun x35 => ?_
      refine v_sub (L' := [(0, .ref this)]) [0] rfl ?_
      exact vl1_begin_38 hc hr hq hL x35 this
  · intro a14 hx14
    subst hx14
    refine v_aload_n (i := 0) hc 0 rfl dX1_begin_17 rfl ?_
    refine v_getV hc kX1 0 (by decide) w_259 rfl dX1_begin_18 (gQ rfl fun x18 => ?_)
    refine v_nn fun b21 hb21 => ?_
    subst hb21
    refine v_cV hc (m_V' (As := []) (b := b21) (rest := []) 0 hc hr (fun l D tys base => ct3_clear l D tys base h7 b21) (fun x hx => ob3_clear hx) rfl s3_clear w_600 rfl ⟨Nat.le_of_ble_eq_true rfl, Nat.le_of_ble_eq_true rfl⟩ ⟨Nat.le_of_ble_eq_true rfl, Nat.le_of_ble_eq_true rfl⟩ (Nat.le_of_ble_eq_true rfl) dX1_begin_21) fun x21 => ?_
    refine v_aload_n (i := 0) hc 0 rfl dX1_begin_24 rfl ?_
    refine v_getV hc kX1 1 (by decide) w_260 rfl dX1_begin_25 (gQ rfl fun x25 => ?_)
    refine v_ifnull hc 38 dX1_begin_28 rfl ?_ ?_
    · intro hx28
      subst hx28
      refine v_sub (L' := [(0, .ref this)]) [0] rfl ?_
      exact vl1_begin_38 hc hr hq hL x21 this
    · intro a28 hx28
      subst hx28
      refine v_aload_n (i := 0) hc 0 rfl dX1_begin_31 rfl ?_
      refine v_getV hc kX1 1 (by decide) w_260 rfl dX1_begin_32 (gQ rfl fun x32 => ?_)
      refine v_nn fun b35 hb35 => ?_
      subst hb35
      refine v_cV hc (m_V' (As := []) (b := b35) (rest := []) 0 hc hr (fun l D tys base => ct0_clear l D tys base x21 b35) (fun x hx => ob0_clear hx) rfl s0_clear w_604 rfl ⟨Nat.le_of_ble_eq_true rfl, Nat.le_of_ble_eq_true rfl⟩ ⟨Nat.le_of_ble_eq_true rfl, Nat.le_of_ble_eq_true rfl⟩ (Nat.le_of_ble_eq_true rfl) dX1_begin_35) fun x35 => ?_
      refine v_sub (L' := [(0, .ref this)]) [0] rfl ?_
      exact vl1_begin_38 hc hr hq hL x35 this
theorem s1_begin : YV yX1_begin RX1 cX1_begin 3 none 2 := ⟨w_599, w_598, w_4, w_114, rfl, by decide +kernel, by decide +kernel, by decide +kernel⟩
def f6_rewind (h : AH) (this : Nat) : Option (AH) := (hObj 6 h this).bind fun _ => (fS 6 2 h this (.int (0 : Int32))).bind fun h2 => some h2
theorem ob6_rewind {h : AH} {this : Nat} {x : AH} (e : f6_rewind h this = some x) : ∃ fs, hObj 6 h this = some fs := by
  unfold f6_rewind at e
  obtain ⟨fs, h1, -⟩ := bd e
  exact ⟨fs, h1⟩
set_option maxRecDepth 100000 in
theorem ct6_rewind (l : Launch) (D : va_G) (tys : Tys) (base : Nat) (h : AH) (this : Nat) : Ct l D tys base yX6_rewind cX6_rewind 1 none 0 0 0 0 [.ref this] h (wV) (f6_rewind h this) := by
  refine Ct.intro (own := RX6) (L := [(0, .ref this)]) rfl (by decide) rfl (Nat.le_of_ble_eq_true rfl) fun κ hc hr hq hi hL => ?_
  have hn : ∀ i, i < 1 → i < κ.2.2.2.2.1 := fun i q => hL ▸ q
  unfold f6_rewind
  refine v_obj ?_
  refine v_aload_n (i := 0) hc 0 rfl dX6_rewind_0 rfl ?_
  refine v_iconst (x := (0 : Int32)) hc dX6_rewind_1 zi_0 ?_
  refine v_put hc kX6 2 (by decide) w_229 rfl rfl dX6_rewind_2 ⟨rfl, rfl⟩ fun h2 => ?_
  exact v_vret hc hq (Nat.le_of_ble_eq_true rfl) (Nat.le_of_ble_eq_true rfl) rfl dX6_rewind_5
theorem s6_rewind : YV yX6_rewind RX6 cX6_rewind 1 none 0 := ⟨w_611, w_609, w_610, w_113, rfl, by decide +kernel, by decide +kernel, by decide +kernel⟩
def f6_byteAt (h : AH) (this : Nat) (p0 : Int32) : Option (Int32) := (hObj 6 h this).bind fun _ => (if p0 < 0 then some (-1 : Int32) else (fI 6 1 h this).bind fun x6 => (if x6 ≤ p0 then some (-1 : Int32) else (fR 6 0 h this).bind fun x14 => (aN h x14).bind fun x17 => (if x17 ≤ p0 then some (-1 : Int32) else (fR 6 0 h this).bind fun x22 => (aI 0 h x22 p0).bind fun x26 => some x26)))
theorem ob6_byteAt {h : AH} {this : Nat} {p0 : Int32} {x : Int32} (e : f6_byteAt h this p0 = some x) : ∃ fs, hObj 6 h this = some fs := by
  unfold f6_byteAt at e
  obtain ⟨fs, h1, -⟩ := bd e
  exact ⟨fs, h1⟩
set_option maxRecDepth 100000 in
theorem ct6_byteAt (l : Launch) (D : va_G) (tys : Tys) (base : Nat) (h : AH) (this : Nat) (p0 : Int32) : Ct l D tys base yX6_byteAt cX6_byteAt 2 (some .int) 0 0 0 0 [.ref this, .int p0] h (rI h) (f6_byteAt h this p0) := by
  refine Ct.intro (own := RX6) (L := [(0, .ref this), (1, .int p0)]) rfl (by decide) rfl (Nat.le_of_ble_eq_true rfl) fun κ hc hr hq hi hL => ?_
  have hn : ∀ i, i < 2 → i < κ.2.2.2.2.1 := fun i q => hL ▸ q
  unfold f6_byteAt
  refine v_obj ?_
  refine v_iload_n (i := 1) hc 1 rfl dX6_byteAt_0 rfl ?_
  refine v_if_lt hc 30 dX6_byteAt_1 rfl ?_ ?_
  · refine v_iconst (x := (-1 : Int32)) hc dX6_byteAt_30 zi_m1 ?_
    exact v_iret hc hq rfl rfl (Nat.le_of_ble_eq_true rfl) (Nat.le_of_ble_eq_true rfl) rfl dX6_byteAt_31
  · refine v_iload_n (i := 1) hc 1 rfl dX6_byteAt_4 rfl ?_
    refine v_aload_n (i := 0) hc 0 rfl dX6_byteAt_5 rfl ?_
    refine v_getV hc kX6 1 (by decide) w_228 rfl dX6_byteAt_6 (gI rfl fun x6 => ?_)
    refine v_icmp_ge hc 30 dX6_byteAt_9 rfl ?_ ?_
    · refine v_iconst (x := (-1 : Int32)) hc dX6_byteAt_30 zi_m1 ?_
      exact v_iret hc hq rfl rfl (Nat.le_of_ble_eq_true rfl) (Nat.le_of_ble_eq_true rfl) rfl dX6_byteAt_31
    · refine v_iload_n (i := 1) hc 1 rfl dX6_byteAt_12 rfl ?_
      refine v_aload_n (i := 0) hc 0 rfl dX6_byteAt_13 rfl ?_
      refine v_getV hc kX6 0 (by decide) w_227 rfl dX6_byteAt_14 (gR rfl fun x14 => ?_)
      refine v_alen hc dX6_byteAt_17 fun x17 => ?_
      refine v_icmp_ge hc 30 dX6_byteAt_18 rfl ?_ ?_
      · refine v_iconst (x := (-1 : Int32)) hc dX6_byteAt_30 zi_m1 ?_
        exact v_iret hc hq rfl rfl (Nat.le_of_ble_eq_true rfl) (Nat.le_of_ble_eq_true rfl) rfl dX6_byteAt_31
      · refine v_aload_n (i := 0) hc 0 rfl dX6_byteAt_21 rfl ?_
        refine v_getV hc kX6 0 (by decide) w_227 rfl dX6_byteAt_22 (gR rfl fun x22 => ?_)
        refine v_iload_n (i := 1) hc 1 rfl dX6_byteAt_25 rfl ?_
        refine v_iald hc dX6_byteAt_26 fun x26 => ?_
        refine v_goto hc 31 dX6_byteAt_27 rfl ?_
        exact v_iret hc hq rfl rfl (Nat.le_of_ble_eq_true rfl) (Nat.le_of_ble_eq_true rfl) rfl dX6_byteAt_31
theorem s6_byteAt : YV yX6_byteAt RX6 cX6_byteAt 2 (some .int) 1 := ⟨w_619, w_618, w_5, w_113, rfl, by decide +kernel, by decide +kernel, by decide +kernel⟩
def f6_goOverNumber_16 (v0 : Nat) : Nat → AH → Option (AH)
  | 0, _ => none
  | n + 1, h => (fI 6 2 h v0).bind fun x17 => (fI 6 1 h v0).bind fun x21 => (if x21 ≤ x17 then some h else (fI 6 2 h v0).bind fun x29 => (f6_byteAt h v0 x29).bind fun x32 => (f8_isFrom h x32 (48 : Int32) (57 : Int32)).bind fun x39 => (if x39 = true then (fI 6 6 h v0).bind fun x46 => (if (5 : Int32) ≤ x46 then (fI 6 6 h v0).bind fun x78 => (fS 6 6 h v0 (.int (x78 + (1 : Int32)))).bind fun h83 => (fI 6 2 h83 v0).bind fun x88 => (fS 6 2 h83 v0 (.int (x88 + (1 : Int32)))).bind fun h93 => f6_goOverNumber_16 v0 n h93 else (fI 6 5 h v0).bind fun x55 => (fI 6 2 h v0).bind fun x63 => (f6_byteAt h v0 x63).bind fun x66 => (fS 6 5 h v0 (.int (((x55 * (10 : Int32)) + x66) - (48 : Int32)))).bind fun h73 => (fI 6 6 h73 v0).bind fun x78 => (fS 6 6 h73 v0 (.int (x78 + (1 : Int32)))).bind fun h83 => (fI 6 2 h83 v0).bind fun x88 => (fS 6 2 h83 v0 (.int (x88 + (1 : Int32)))).bind fun h93 => f6_goOverNumber_16 v0 n h93) else some h))
set_option maxRecDepth 100000 in
theorem vl6_goOverNumber_16 {κ : Kx} (hc : CX κ RX6 cX6_goOverNumber) (hr : RX κ ({ frames := 1, cells := 0, slots := 0, locals := 22 } : Room)) (hq : QX κ none 0 0) (hL : 1 = κ.2.2.2.2.1)  (v0 : Nat) : ∀ n (h : AH), V κ (wV) 0 0 16 [(0, .ref v0)] [] h (f6_goOverNumber_16 v0 n h) := by
  have hn : ∀ i, i < 1 → i < κ.2.2.2.2.1 := fun i q => hL ▸ q
  intro n
  induction n with
  | zero => intros; exact v_none
  | succ n ih =>
    intro h
    rw [f6_goOverNumber_16.eq_2]
    refine v_aload_n (i := 0) hc 0 rfl dX6_goOverNumber_16 rfl ?_
    refine v_getV hc kX6 2 (by decide) w_229 rfl dX6_goOverNumber_17 (gI rfl fun x17 => ?_)
    refine v_aload_n (i := 0) hc 0 rfl dX6_goOverNumber_20 rfl ?_
    refine v_getV hc kX6 1 (by decide) w_228 rfl dX6_goOverNumber_21 (gI rfl fun x21 => ?_)
    refine v_icmp_ge hc 99 dX6_goOverNumber_24 rfl ?_ ?_
    · exact v_vret hc hq (Nat.le_of_ble_eq_true rfl) (Nat.le_of_ble_eq_true rfl) rfl dX6_goOverNumber_99
    · refine v_aload_n (i := 0) hc 0 rfl dX6_goOverNumber_27 rfl ?_
      refine v_aload_n (i := 0) hc 0 rfl dX6_goOverNumber_28 rfl ?_
      refine v_getV hc kX6 2 (by decide) w_229 rfl dX6_goOverNumber_29 (gI rfl fun x29 => ?_)
      refine v_cI hc (m_V' (As := [.int x29]) (b := v0) (rest := []) 1 hc hr (fun l D tys base => ct6_byteAt l D tys base h v0 x29) (fun x hx => ob6_byteAt hx) rfl s6_byteAt w_616 rfl ⟨Nat.le_of_ble_eq_true rfl, Nat.le_of_ble_eq_true rfl⟩ ⟨Nat.le_of_ble_eq_true rfl, Nat.le_of_ble_eq_true rfl⟩ (Nat.le_of_ble_eq_true rfl) dX6_goOverNumber_32) fun x32 => ?_
      refine v_bipush (x := (48 : Int32)) hc dX6_goOverNumber_35 zb_48 ?_
      refine v_bipush (x := (57 : Int32)) hc dX6_goOverNumber_37 zb_57 ?_
      refine v_cB hc (m_SN' (As := [.int x32, .int (48 : Int32), .int (57 : Int32)]) (rest := []) 3 hc hr (fun l D tys base => ct8_isFrom l D tys base h x32 (48 : Int32) (57 : Int32)) s8_isFrom w_620 rfl ⟨Nat.le_of_ble_eq_true rfl, Nat.le_of_ble_eq_true rfl⟩ ⟨Nat.le_of_ble_eq_true rfl, Nat.le_of_ble_eq_true rfl⟩ (Nat.le_of_ble_eq_true rfl) dX6_goOverNumber_39) fun x39 => ?_
      refine v_ifb_eq hc 99 dX6_goOverNumber_42 rfl ?_ ?_
      · exact v_vret hc hq (Nat.le_of_ble_eq_true rfl) (Nat.le_of_ble_eq_true rfl) rfl dX6_goOverNumber_99
      · refine v_aload_n (i := 0) hc 0 rfl dX6_goOverNumber_45 rfl ?_
        refine v_getV hc kX6 6 (by decide) w_236 rfl dX6_goOverNumber_46 (gI rfl fun x46 => ?_)
        refine v_iconst (x := (5 : Int32)) hc dX6_goOverNumber_49 zi_5 ?_
        refine v_icmp_ge hc 76 dX6_goOverNumber_50 rfl ?_ ?_
        · refine v_aload_n (i := 0) hc 0 rfl dX6_goOverNumber_76 rfl ?_
          refine v_dup hc dX6_goOverNumber_77 rfl ?_
          refine v_getV hc kX6 6 (by decide) w_236 rfl dX6_goOverNumber_78 (gI rfl fun x78 => ?_)
          refine v_iconst (x := (1 : Int32)) hc dX6_goOverNumber_81 zi_1 ?_
          refine v_iadd hc dX6_goOverNumber_82 ?_
          refine v_put hc kX6 6 (by decide) w_236 rfl rfl dX6_goOverNumber_83 ⟨rfl, rfl⟩ fun h83 => ?_
          refine v_aload_n (i := 0) hc 0 rfl dX6_goOverNumber_86 rfl ?_
          refine v_dup hc dX6_goOverNumber_87 rfl ?_
          refine v_getV hc kX6 2 (by decide) w_229 rfl dX6_goOverNumber_88 (gI rfl fun x88 => ?_)
          refine v_iconst (x := (1 : Int32)) hc dX6_goOverNumber_91 zi_1 ?_
          refine v_iadd hc dX6_goOverNumber_92 ?_
          refine v_put hc kX6 2 (by decide) w_229 rfl rfl dX6_goOverNumber_93 ⟨rfl, rfl⟩ fun h93 => ?_
          refine v_goto hc 16 dX6_goOverNumber_96 rfl ?_
          refine v_sub (L' := [(0, .ref v0)]) [0] rfl ?_
          exact ih h93
        · refine v_aload_n (i := 0) hc 0 rfl dX6_goOverNumber_53 rfl ?_
          refine v_aload_n (i := 0) hc 0 rfl dX6_goOverNumber_54 rfl ?_
          refine v_getV hc kX6 5 (by decide) w_234 rfl dX6_goOverNumber_55 (gI rfl fun x55 => ?_)
          refine v_bipush (x := (10 : Int32)) hc dX6_goOverNumber_58 zb_10 ?_
          refine v_imul hc dX6_goOverNumber_60 ?_
          refine v_aload_n (i := 0) hc 0 rfl dX6_goOverNumber_61 rfl ?_
          refine v_aload_n (i := 0) hc 0 rfl dX6_goOverNumber_62 rfl ?_
          refine v_getV hc kX6 2 (by decide) w_229 rfl dX6_goOverNumber_63 (gI rfl fun x63 => ?_)
          refine v_cI hc (m_V' (As := [.int x63]) (b := v0) (rest := [.int (x55 * (10 : Int32)), .ref v0]) 1 hc hr (fun l D tys base => ct6_byteAt l D tys base h v0 x63) (fun x hx => ob6_byteAt hx) rfl s6_byteAt w_616 rfl ⟨Nat.le_of_ble_eq_true rfl, Nat.le_of_ble_eq_true rfl⟩ ⟨Nat.le_of_ble_eq_true rfl, Nat.le_of_ble_eq_true rfl⟩ (Nat.le_of_ble_eq_true rfl) dX6_goOverNumber_66) fun x66 => ?_
          refine v_iadd hc dX6_goOverNumber_69 ?_
          refine v_bipush (x := (48 : Int32)) hc dX6_goOverNumber_70 zb_48 ?_
          refine v_isub hc dX6_goOverNumber_72 ?_
          refine v_put hc kX6 5 (by decide) w_234 rfl rfl dX6_goOverNumber_73 ⟨rfl, rfl⟩ fun h73 => ?_
          refine v_aload_n (i := 0) hc 0 rfl dX6_goOverNumber_76 rfl ?_
          refine v_dup hc dX6_goOverNumber_77 rfl ?_
          refine v_getV hc kX6 6 (by decide) w_236 rfl dX6_goOverNumber_78 (gI rfl fun x78 => ?_)
          refine v_iconst (x := (1 : Int32)) hc dX6_goOverNumber_81 zi_1 ?_
          refine v_iadd hc dX6_goOverNumber_82 ?_
          refine v_put hc kX6 6 (by decide) w_236 rfl rfl dX6_goOverNumber_83 ⟨rfl, rfl⟩ fun h83 => ?_
          refine v_aload_n (i := 0) hc 0 rfl dX6_goOverNumber_86 rfl ?_
          refine v_dup hc dX6_goOverNumber_87 rfl ?_
          refine v_getV hc kX6 2 (by decide) w_229 rfl dX6_goOverNumber_88 (gI rfl fun x88 => ?_)
          refine v_iconst (x := (1 : Int32)) hc dX6_goOverNumber_91 zi_1 ?_
          refine v_iadd hc dX6_goOverNumber_92 ?_
          refine v_put hc kX6 2 (by decide) w_229 rfl rfl dX6_goOverNumber_93 ⟨rfl, rfl⟩ fun h93 => ?_
          refine v_goto hc 16 dX6_goOverNumber_96 rfl ?_
          refine v_sub (L' := [(0, .ref v0)]) [0] rfl ?_
          exact ih h93
def f6_goOverNumber (h : AH) (this : Nat) : Option (AH) := (hObj 6 h this).bind fun _ => (fS 6 4 h this (.int (21 : Int32))).bind fun h3 => (fS 6 5 h3 this (.int (0 : Int32))).bind fun h8 => (fS 6 6 h8 this (.int (0 : Int32))).bind fun h13 => f6_goOverNumber_16 this FU h13
theorem ob6_goOverNumber {h : AH} {this : Nat} {x : AH} (e : f6_goOverNumber h this = some x) : ∃ fs, hObj 6 h this = some fs := by
  unfold f6_goOverNumber at e
  obtain ⟨fs, h1, -⟩ := bd e
  exact ⟨fs, h1⟩
set_option maxRecDepth 100000 in
theorem ct6_goOverNumber (l : Launch) (D : va_G) (tys : Tys) (base : Nat) (h : AH) (this : Nat) : Ct l D tys base yX6_goOverNumber cX6_goOverNumber 1 none 1 22 0 0 [.ref this] h (wV) (f6_goOverNumber h this) := by
  refine Ct.intro (own := RX6) (L := [(0, .ref this)]) rfl (by decide) rfl (Nat.le_of_ble_eq_true rfl) fun κ hc hr hq hi hL => ?_
  have hn : ∀ i, i < 1 → i < κ.2.2.2.2.1 := fun i q => hL ▸ q
  unfold f6_goOverNumber
  refine v_obj ?_
  refine v_aload_n (i := 0) hc 0 rfl dX6_goOverNumber_0 rfl ?_
  refine v_bipush (x := (21 : Int32)) hc dX6_goOverNumber_1 zb_21 ?_
  refine v_put hc kX6 4 (by decide) w_232 rfl rfl dX6_goOverNumber_3 ⟨rfl, rfl⟩ fun h3 => ?_
  refine v_aload_n (i := 0) hc 0 rfl dX6_goOverNumber_6 rfl ?_
  refine v_iconst (x := (0 : Int32)) hc dX6_goOverNumber_7 zi_0 ?_
  refine v_put hc kX6 5 (by decide) w_234 rfl rfl dX6_goOverNumber_8 ⟨rfl, rfl⟩ fun h8 => ?_
  refine v_aload_n (i := 0) hc 0 rfl dX6_goOverNumber_11 rfl ?_
  refine v_iconst (x := (0 : Int32)) hc dX6_goOverNumber_12 zi_0 ?_
  refine v_put hc kX6 6 (by decide) w_236 rfl rfl dX6_goOverNumber_13 ⟨rfl, rfl⟩ fun h13 => ?_
  refine v_sub (L' := [(0, .ref this)]) [0] rfl ?_
  exact vl6_goOverNumber_16 hc hr hq hL this FU h13
theorem s6_goOverNumber : YV yX6_goOverNumber RX6 cX6_goOverNumber 1 none 0 := ⟨w_624, w_623, w_6, w_113, rfl, by decide +kernel, by decide +kernel, by decide +kernel⟩
def f6_wordNumber_11 (h : AH) (v0 : Nat) (v1 : Int32) (v2 : Int32) : Nat → Int32 → Int32 → Bool → Int32 → Option (Int32)
  | 0, _, _, _, _ => none
  | n + 1, v3, v4, v5, v6 => (if (110 : Int32) ≤ v6 then some (-1 : Int32) else (chW v6).bind fun x21 => (if x21 = (32 : Int32) then (if v5 = true then (if v4 = v2 then some v3 else (some (v3 + (1 : Int32))).bind fun x85 => (some (v6 + (1 : Int32))).bind fun x94 => f6_wordNumber_11 h v0 v1 v2 n x85 v1 true x94) else (some (v3 + (1 : Int32))).bind fun x85 => (some (v6 + (1 : Int32))).bind fun x94 => f6_wordNumber_11 h v0 v1 v2 n x85 v1 true x94) else (if v5 = true then (if v2 ≤ v4 then (some (v4 + (1 : Int32))).bind fun x66 => (some (v6 + (1 : Int32))).bind fun x94 => f6_wordNumber_11 h v0 v1 v2 n v3 x66 false x94 else (f6_byteAt h v0 v4).bind fun x51 => (if x51 = x21 then (some (v4 + (1 : Int32))).bind fun x66 => (some (v6 + (1 : Int32))).bind fun x94 => f6_wordNumber_11 h v0 v1 v2 n v3 x66 true x94 else (some (v4 + (1 : Int32))).bind fun x66 => (some (v6 + (1 : Int32))).bind fun x94 => f6_wordNumber_11 h v0 v1 v2 n v3 x66 false x94)) else (some (v4 + (1 : Int32))).bind fun x66 => (some (v6 + (1 : Int32))).bind fun x94 => f6_wordNumber_11 h v0 v1 v2 n v3 x66 false x94)))
set_option maxRecDepth 100000 in
theorem vl6_wordNumber_11 {κ : Kx} (hc : CX κ RX6 cX6_wordNumber) (hr : RX κ ({ frames := 4, cells := 0, slots := 0, locals := 85 } : Room)) (hq : QX κ (some .int) 0 0) (hL : 8 = κ.2.2.2.2.1)  (h : AH) (v0 : Nat) (v1 : Int32) (v2 : Int32) : ∀ n (v3 : Int32) (v4 : Int32) (v5 : Bool) (v6 : Int32), V κ (rI h) 0 0 11 [(0, .ref v0), (1, .int v1), (2, .int v2), (3, .int v3), (4, .int v4), (5, .int (bI v5)), (6, .int v6)] [] h (f6_wordNumber_11 h v0 v1 v2 n v3 v4 v5 v6) := by
  have hn : ∀ i, i < 8 → i < κ.2.2.2.2.1 := fun i q => hL ▸ q
  intro n
  induction n with
  | zero => intros; exact v_none
  | succ n ih =>
    intro v3 v4 v5 v6
    rw [f6_wordNumber_11.eq_2]
    refine v_iload (i := 6) hc 6 rfl dX6_wordNumber_11 ?_
    refine v_strlen hc hr (Nat.le_of_ble_eq_true rfl) (Nat.le_of_ble_eq_true rfl) (Nat.le_of_ble_eq_true rfl) (Nat.le_of_ble_eq_true rfl) (Nat.le_of_ble_eq_true rfl) dX6_wordNumber_13 dX6_wordNumber_15 ?_
    refine v_icmp_ge hc 100 dX6_wordNumber_18 rfl ?_ ?_
    · refine v_iconst (x := (-1 : Int32)) hc dX6_wordNumber_100 zi_m1 ?_
      exact v_iret hc hq rfl rfl (Nat.le_of_ble_eq_true rfl) (Nat.le_of_ble_eq_true rfl) rfl dX6_wordNumber_101
    · refine v_strchr (i := 6) hc hr (Nat.le_of_ble_eq_true rfl) (Nat.le_of_ble_eq_true rfl) (Nat.le_of_ble_eq_true rfl) (Nat.le_of_ble_eq_true rfl) (Nat.le_of_ble_eq_true rfl) 6 rfl dX6_wordNumber_21 dX6_wordNumber_23 dX6_wordNumber_25 fun x21 => ?_
      refine v_istore (i := 7) (L' := [(7, .int x21), (0, .ref v0), (1, .int v1), (2, .int v2), (3, .int v3), (4, .int v4), (5, .int (bI v5)), (6, .int v6)]) hc dX6_wordNumber_28 (hn 7 (Nat.le_of_ble_eq_true rfl)) rfl ?_
      refine v_iload (i := 7) hc 0 rfl dX6_wordNumber_30 ?_
      refine v_bipush (x := (32 : Int32)) hc dX6_wordNumber_32 zb_32 ?_
      refine v_icmp_eq hc 72 dX6_wordNumber_34 rfl ?_ ?_
      · refine v_iload (i := 5) hc 6 rfl dX6_wordNumber_72 ?_
        refine v_ifb_eq hc 85 dX6_wordNumber_74 rfl ?_ ?_
        · refine v_iincN (i := 3) (y := (1 : Int32)) (L' := fun z => [(3, .int z), (7, .int x21), (0, .ref v0), (1, .int v1), (2, .int v2), (4, .int v4), (5, .int (bI v5)), (6, .int v6)]) hc 4 rfl dX6_wordNumber_85 zi_1 (hn 3 (Nat.le_of_ble_eq_true rfl)) (fun _ => rfl) fun x85 => ?_
          refine v_iload_n (i := 1) hc 3 rfl dX6_wordNumber_88 rfl ?_
          refine v_istore (i := 4) (L' := [(4, .int v1), (3, .int x85), (7, .int x21), (0, .ref v0), (1, .int v1), (2, .int v2), (5, .int (bI v5)), (6, .int v6)]) hc dX6_wordNumber_89 (hn 4 (Nat.le_of_ble_eq_true rfl)) rfl ?_
          refine v_iconst (x := (1 : Int32)) hc dX6_wordNumber_91 zi_1 ?_
          refine v_istore (i := 5) (L' := [(5, .int (1 : Int32)), (4, .int v1), (3, .int x85), (7, .int x21), (0, .ref v0), (1, .int v1), (2, .int v2), (6, .int v6)]) hc dX6_wordNumber_92 (hn 5 (Nat.le_of_ble_eq_true rfl)) rfl ?_
          refine v_iincN (i := 6) (y := (1 : Int32)) (L' := fun z => [(6, .int z), (5, .int (1 : Int32)), (4, .int v1), (3, .int x85), (7, .int x21), (0, .ref v0), (1, .int v1), (2, .int v2)]) hc 7 rfl dX6_wordNumber_94 zi_1 (hn 6 (Nat.le_of_ble_eq_true rfl)) (fun _ => rfl) fun x94 => ?_
          refine v_goto hc 11 dX6_wordNumber_97 rfl ?_
          refine v_sub (L' := [(0, .ref v0), (1, .int v1), (2, .int v2), (3, .int x85), (4, .int v1), (5, .int (bI true)), (6, .int x94)]) [5, 6, 7, 3, 2, 1, 0] rfl ?_
          exact ih x85 v1 true x94
        · refine v_iload (i := 4) hc 5 rfl dX6_wordNumber_77 ?_
          refine v_iload_n (i := 2) hc 3 rfl dX6_wordNumber_79 rfl ?_
          refine v_icmp_ne hc 85 dX6_wordNumber_80 rfl ?_ ?_
          · refine v_iincN (i := 3) (y := (1 : Int32)) (L' := fun z => [(3, .int z), (7, .int x21), (0, .ref v0), (1, .int v1), (2, .int v2), (4, .int v4), (5, .int (bI v5)), (6, .int v6)]) hc 4 rfl dX6_wordNumber_85 zi_1 (hn 3 (Nat.le_of_ble_eq_true rfl)) (fun _ => rfl) fun x85 => ?_
            refine v_iload_n (i := 1) hc 3 rfl dX6_wordNumber_88 rfl ?_
            refine v_istore (i := 4) (L' := [(4, .int v1), (3, .int x85), (7, .int x21), (0, .ref v0), (1, .int v1), (2, .int v2), (5, .int (bI v5)), (6, .int v6)]) hc dX6_wordNumber_89 (hn 4 (Nat.le_of_ble_eq_true rfl)) rfl ?_
            refine v_iconst (x := (1 : Int32)) hc dX6_wordNumber_91 zi_1 ?_
            refine v_istore (i := 5) (L' := [(5, .int (1 : Int32)), (4, .int v1), (3, .int x85), (7, .int x21), (0, .ref v0), (1, .int v1), (2, .int v2), (6, .int v6)]) hc dX6_wordNumber_92 (hn 5 (Nat.le_of_ble_eq_true rfl)) rfl ?_
            refine v_iincN (i := 6) (y := (1 : Int32)) (L' := fun z => [(6, .int z), (5, .int (1 : Int32)), (4, .int v1), (3, .int x85), (7, .int x21), (0, .ref v0), (1, .int v1), (2, .int v2)]) hc 7 rfl dX6_wordNumber_94 zi_1 (hn 6 (Nat.le_of_ble_eq_true rfl)) (fun _ => rfl) fun x94 => ?_
            refine v_goto hc 11 dX6_wordNumber_97 rfl ?_
            refine v_sub (L' := [(0, .ref v0), (1, .int v1), (2, .int v2), (3, .int x85), (4, .int v1), (5, .int (bI true)), (6, .int x94)]) [5, 6, 7, 3, 2, 1, 0] rfl ?_
            exact ih x85 v1 true x94
          · refine v_iload_n (i := 3) hc 4 rfl dX6_wordNumber_83 rfl ?_
            exact v_iret hc hq rfl rfl (Nat.le_of_ble_eq_true rfl) (Nat.le_of_ble_eq_true rfl) rfl dX6_wordNumber_84
      · refine v_iload (i := 5) hc 6 rfl dX6_wordNumber_37 ?_
        refine v_ifb_eq hc 63 dX6_wordNumber_39 rfl ?_ ?_
        · refine v_iconst (x := (0 : Int32)) hc dX6_wordNumber_63 zi_0 ?_
          refine v_istore (i := 5) (L' := [(5, .int (0 : Int32)), (7, .int x21), (0, .ref v0), (1, .int v1), (2, .int v2), (3, .int v3), (4, .int v4), (6, .int v6)]) hc dX6_wordNumber_64 (hn 5 (Nat.le_of_ble_eq_true rfl)) rfl ?_
          refine v_iincN (i := 4) (y := (1 : Int32)) (L' := fun z => [(4, .int z), (5, .int (0 : Int32)), (7, .int x21), (0, .ref v0), (1, .int v1), (2, .int v2), (3, .int v3), (6, .int v6)]) hc 6 rfl dX6_wordNumber_66 zi_1 (hn 4 (Nat.le_of_ble_eq_true rfl)) (fun _ => rfl) fun x66 => ?_
          refine v_goto hc 94 dX6_wordNumber_69 rfl ?_
          refine v_iincN (i := 6) (y := (1 : Int32)) (L' := fun z => [(6, .int z), (4, .int x66), (5, .int (0 : Int32)), (7, .int x21), (0, .ref v0), (1, .int v1), (2, .int v2), (3, .int v3)]) hc 7 rfl dX6_wordNumber_94 zi_1 (hn 6 (Nat.le_of_ble_eq_true rfl)) (fun _ => rfl) fun x94 => ?_
          refine v_goto hc 11 dX6_wordNumber_97 rfl ?_
          refine v_sub (L' := [(0, .ref v0), (1, .int v1), (2, .int v2), (3, .int v3), (4, .int x66), (5, .int (bI false)), (6, .int x94)]) [4, 5, 6, 7, 1, 2, 0] rfl ?_
          exact ih v3 x66 false x94
        · refine v_iload (i := 4) hc 5 rfl dX6_wordNumber_42 ?_
          refine v_iload_n (i := 2) hc 3 rfl dX6_wordNumber_44 rfl ?_
          refine v_icmp_ge hc 63 dX6_wordNumber_45 rfl ?_ ?_
          · refine v_iconst (x := (0 : Int32)) hc dX6_wordNumber_63 zi_0 ?_
            refine v_istore (i := 5) (L' := [(5, .int (0 : Int32)), (7, .int x21), (0, .ref v0), (1, .int v1), (2, .int v2), (3, .int v3), (4, .int v4), (6, .int v6)]) hc dX6_wordNumber_64 (hn 5 (Nat.le_of_ble_eq_true rfl)) rfl ?_
            refine v_iincN (i := 4) (y := (1 : Int32)) (L' := fun z => [(4, .int z), (5, .int (0 : Int32)), (7, .int x21), (0, .ref v0), (1, .int v1), (2, .int v2), (3, .int v3), (6, .int v6)]) hc 6 rfl dX6_wordNumber_66 zi_1 (hn 4 (Nat.le_of_ble_eq_true rfl)) (fun _ => rfl) fun x66 => ?_
            refine v_goto hc 94 dX6_wordNumber_69 rfl ?_
            refine v_iincN (i := 6) (y := (1 : Int32)) (L' := fun z => [(6, .int z), (4, .int x66), (5, .int (0 : Int32)), (7, .int x21), (0, .ref v0), (1, .int v1), (2, .int v2), (3, .int v3)]) hc 7 rfl dX6_wordNumber_94 zi_1 (hn 6 (Nat.le_of_ble_eq_true rfl)) (fun _ => rfl) fun x94 => ?_
            refine v_goto hc 11 dX6_wordNumber_97 rfl ?_
            refine v_sub (L' := [(0, .ref v0), (1, .int v1), (2, .int v2), (3, .int v3), (4, .int x66), (5, .int (bI false)), (6, .int x94)]) [4, 5, 6, 7, 1, 2, 0] rfl ?_
            exact ih v3 x66 false x94
          · refine v_aload_n (i := 0) hc 1 rfl dX6_wordNumber_48 rfl ?_
            refine v_iload (i := 4) hc 5 rfl dX6_wordNumber_49 ?_
            refine v_cI hc (m_V' (As := [.int v4]) (b := v0) (rest := []) 1 hc hr (fun l D tys base => ct6_byteAt l D tys base h v0 v4) (fun x hx => ob6_byteAt hx) rfl s6_byteAt w_616 rfl ⟨Nat.le_of_ble_eq_true rfl, Nat.le_of_ble_eq_true rfl⟩ ⟨Nat.le_of_ble_eq_true rfl, Nat.le_of_ble_eq_true rfl⟩ (Nat.le_of_ble_eq_true rfl) dX6_wordNumber_51) fun x51 => ?_
            refine v_iload (i := 7) hc 0 rfl dX6_wordNumber_54 ?_
            refine v_icmp_ne hc 63 dX6_wordNumber_56 rfl ?_ ?_
            · refine v_iconst (x := (0 : Int32)) hc dX6_wordNumber_63 zi_0 ?_
              refine v_istore (i := 5) (L' := [(5, .int (0 : Int32)), (7, .int x21), (0, .ref v0), (1, .int v1), (2, .int v2), (3, .int v3), (4, .int v4), (6, .int v6)]) hc dX6_wordNumber_64 (hn 5 (Nat.le_of_ble_eq_true rfl)) rfl ?_
              refine v_iincN (i := 4) (y := (1 : Int32)) (L' := fun z => [(4, .int z), (5, .int (0 : Int32)), (7, .int x21), (0, .ref v0), (1, .int v1), (2, .int v2), (3, .int v3), (6, .int v6)]) hc 6 rfl dX6_wordNumber_66 zi_1 (hn 4 (Nat.le_of_ble_eq_true rfl)) (fun _ => rfl) fun x66 => ?_
              refine v_goto hc 94 dX6_wordNumber_69 rfl ?_
              refine v_iincN (i := 6) (y := (1 : Int32)) (L' := fun z => [(6, .int z), (4, .int x66), (5, .int (0 : Int32)), (7, .int x21), (0, .ref v0), (1, .int v1), (2, .int v2), (3, .int v3)]) hc 7 rfl dX6_wordNumber_94 zi_1 (hn 6 (Nat.le_of_ble_eq_true rfl)) (fun _ => rfl) fun x94 => ?_
              refine v_goto hc 11 dX6_wordNumber_97 rfl ?_
              refine v_sub (L' := [(0, .ref v0), (1, .int v1), (2, .int v2), (3, .int v3), (4, .int x66), (5, .int (bI false)), (6, .int x94)]) [4, 5, 6, 7, 1, 2, 0] rfl ?_
              exact ih v3 x66 false x94
            · refine v_iconst (x := (1 : Int32)) hc dX6_wordNumber_59 zi_1 ?_
              refine v_goto hc 64 dX6_wordNumber_60 rfl ?_
              refine v_istore (i := 5) (L' := [(5, .int (1 : Int32)), (7, .int x21), (0, .ref v0), (1, .int v1), (2, .int v2), (3, .int v3), (4, .int v4), (6, .int v6)]) hc dX6_wordNumber_64 (hn 5 (Nat.le_of_ble_eq_true rfl)) rfl ?_
              refine v_iincN (i := 4) (y := (1 : Int32)) (L' := fun z => [(4, .int z), (5, .int (1 : Int32)), (7, .int x21), (0, .ref v0), (1, .int v1), (2, .int v2), (3, .int v3), (6, .int v6)]) hc 6 rfl dX6_wordNumber_66 zi_1 (hn 4 (Nat.le_of_ble_eq_true rfl)) (fun _ => rfl) fun x66 => ?_
              refine v_goto hc 94 dX6_wordNumber_69 rfl ?_
              refine v_iincN (i := 6) (y := (1 : Int32)) (L' := fun z => [(6, .int z), (4, .int x66), (5, .int (1 : Int32)), (7, .int x21), (0, .ref v0), (1, .int v1), (2, .int v2), (3, .int v3)]) hc 7 rfl dX6_wordNumber_94 zi_1 (hn 6 (Nat.le_of_ble_eq_true rfl)) (fun _ => rfl) fun x94 => ?_
              refine v_goto hc 11 dX6_wordNumber_97 rfl ?_
              refine v_sub (L' := [(0, .ref v0), (1, .int v1), (2, .int v2), (3, .int v3), (4, .int x66), (5, .int (bI true)), (6, .int x94)]) [4, 5, 6, 7, 1, 2, 0] rfl ?_
              exact ih v3 x66 true x94
def f6_wordNumber (h : AH) (this : Nat) (p0 : Int32) (p1 : Int32) : Option (Int32) := (hObj 6 h this).bind fun _ => f6_wordNumber_11 h this p0 p1 FU (0 : Int32) p0 true (0 : Int32)
theorem ob6_wordNumber {h : AH} {this : Nat} {p0 : Int32} {p1 : Int32} {x : Int32} (e : f6_wordNumber h this p0 p1 = some x) : ∃ fs, hObj 6 h this = some fs := by
  unfold f6_wordNumber at e
  obtain ⟨fs, h1, -⟩ := bd e
  exact ⟨fs, h1⟩
set_option maxRecDepth 100000 in
theorem ct6_wordNumber (l : Launch) (D : va_G) (tys : Tys) (base : Nat) (h : AH) (this : Nat) (p0 : Int32) (p1 : Int32) : Ct l D tys base yX6_wordNumber cX6_wordNumber 8 (some .int) 4 85 0 0 [.ref this, .int p0, .int p1] h (rI h) (f6_wordNumber h this p0 p1) := by
  refine Ct.intro (own := RX6) (L := [(0, .ref this), (1, .int p0), (2, .int p1)]) rfl (by decide) rfl (Nat.le_of_ble_eq_true rfl) fun κ hc hr hq hi hL => ?_
  have hn : ∀ i, i < 8 → i < κ.2.2.2.2.1 := fun i q => hL ▸ q
  unfold f6_wordNumber
  refine v_obj ?_
  refine v_iconst (x := (0 : Int32)) hc dX6_wordNumber_0 zi_0 ?_
  refine v_istore_n (i := 3) (L' := [(3, .int (0 : Int32)), (0, .ref this), (1, .int p0), (2, .int p1)]) hc dX6_wordNumber_1 rfl (hn 3 (Nat.le_of_ble_eq_true rfl)) rfl ?_
  refine v_iload_n (i := 1) hc 2 rfl dX6_wordNumber_2 rfl ?_
  refine v_istore (i := 4) (L' := [(4, .int p0), (3, .int (0 : Int32)), (0, .ref this), (1, .int p0), (2, .int p1)]) hc dX6_wordNumber_3 (hn 4 (Nat.le_of_ble_eq_true rfl)) rfl ?_
  refine v_iconst (x := (1 : Int32)) hc dX6_wordNumber_5 zi_1 ?_
  refine v_istore (i := 5) (L' := [(5, .int (1 : Int32)), (4, .int p0), (3, .int (0 : Int32)), (0, .ref this), (1, .int p0), (2, .int p1)]) hc dX6_wordNumber_6 (hn 5 (Nat.le_of_ble_eq_true rfl)) rfl ?_
  refine v_iconst (x := (0 : Int32)) hc dX6_wordNumber_8 zi_0 ?_
  refine v_istore (i := 6) (L' := [(6, .int (0 : Int32)), (5, .int (1 : Int32)), (4, .int p0), (3, .int (0 : Int32)), (0, .ref this), (1, .int p0), (2, .int p1)]) hc dX6_wordNumber_9 (hn 6 (Nat.le_of_ble_eq_true rfl)) rfl ?_
  refine v_sub (L' := [(0, .ref this), (1, .int p0), (2, .int p1), (3, .int (0 : Int32)), (4, .int p0), (5, .int (bI true)), (6, .int (0 : Int32))]) [4, 5, 6, 3, 2, 1, 0] rfl ?_
  exact vl6_wordNumber_11 hc hr hq hL h this p0 p1 FU (0 : Int32) p0 true (0 : Int32)
theorem s6_wordNumber : YV yX6_wordNumber RX6 cX6_wordNumber 8 (some .int) 2 := ⟨w_632, w_631, w_8, w_113, rfl, by decide +kernel, by decide +kernel, by decide +kernel⟩
def f6_goOverWord_42 (h : AH) (v0 : Nat) : Option (AH) := (fI 6 3 h v0).bind fun x44 => (fI 6 2 h v0).bind fun x48 => (f6_wordNumber h v0 x44 x48).bind fun x51 => (if x51 = (-1 : Int32) then (fS 6 4 h v0 (.int (34 : Int32))).bind fun h67 => some h67 else (fS 6 4 h v0 (.int x51)).bind fun h67 => some h67)
set_option maxRecDepth 100000 in
theorem vl6_goOverWord_42 {κ : Kx} (hc : CX κ RX6 cX6_goOverWord) (hr : RX κ ({ frames := 5, cells := 0, slots := 0, locals := 112 } : Room)) (hq : QX κ none 0 0) (hL : 2 = κ.2.2.2.2.1) (h : AH) (v0 : Nat) : V κ (wV) 0 0 42 [(0, .ref v0)] [] h (f6_goOverWord_42 h v0) := by
  have hn : ∀ i, i < 2 → i < κ.2.2.2.2.1 := fun i q => hL ▸ q
  unfold f6_goOverWord_42
  refine v_aload_n (i := 0) hc 0 rfl dX6_goOverWord_42 rfl ?_
  refine v_aload_n (i := 0) hc 0 rfl dX6_goOverWord_43 rfl ?_
  refine v_getV hc kX6 3 (by decide) w_230 rfl dX6_goOverWord_44 (gI rfl fun x44 => ?_)
  refine v_aload_n (i := 0) hc 0 rfl dX6_goOverWord_47 rfl ?_
  refine v_getV hc kX6 2 (by decide) w_229 rfl dX6_goOverWord_48 (gI rfl fun x48 => ?_)
  refine v_cI hc (m_V' (As := [.int x44, .int x48]) (b := v0) (rest := []) 2 hc hr (fun l D tys base => ct6_wordNumber l D tys base h v0 x44 x48) (fun x hx => ob6_wordNumber hx) rfl s6_wordNumber w_629 rfl ⟨Nat.le_of_ble_eq_true rfl, Nat.le_of_ble_eq_true rfl⟩ ⟨Nat.le_of_ble_eq_true rfl, Nat.le_of_ble_eq_true rfl⟩ (Nat.le_of_ble_eq_true rfl) dX6_goOverWord_51) fun x51 => ?_
  refine v_istore_n (i := 1) (L' := [(1, .int x51), (0, .ref v0)]) hc dX6_goOverWord_54 rfl (hn 1 (Nat.le_of_ble_eq_true rfl)) rfl ?_
  refine v_aload_n (i := 0) hc 1 rfl dX6_goOverWord_55 rfl ?_
  refine v_iload_n (i := 1) hc 0 rfl dX6_goOverWord_56 rfl ?_
  refine v_iconst (x := (-1 : Int32)) hc dX6_goOverWord_57 zi_m1 ?_
  refine v_icmp_ne hc 66 dX6_goOverWord_58 rfl ?_ ?_
  · refine v_iload_n (i := 1) hc 0 rfl dX6_goOverWord_66 rfl ?_
    refine v_put hc kX6 4 (by decide) w_232 rfl rfl dX6_goOverWord_67 ⟨rfl, rfl⟩ fun h67 => ?_
    exact v_vret hc hq (Nat.le_of_ble_eq_true rfl) (Nat.le_of_ble_eq_true rfl) rfl dX6_goOverWord_70
  · refine v_bipush (x := (34 : Int32)) hc dX6_goOverWord_61 zb_34 ?_
    refine v_goto hc 67 dX6_goOverWord_63 rfl ?_
    refine v_put hc kX6 4 (by decide) w_232 rfl rfl dX6_goOverWord_67 ⟨rfl, rfl⟩ fun h67 => ?_
    exact v_vret hc hq (Nat.le_of_ble_eq_true rfl) (Nat.le_of_ble_eq_true rfl) rfl dX6_goOverWord_70
def f6_goOverWord_0 (v0 : Nat) : Nat → AH → Option (AH)
  | 0, _ => none
  | n + 1, h => (fI 6 2 h v0).bind fun x1 => (fI 6 1 h v0).bind fun x5 => (if x5 ≤ x1 then f6_goOverWord_42 h v0 else (fI 6 2 h v0).bind fun x13 => (f6_byteAt h v0 x13).bind fun x16 => (f8_isFrom h x16 (97 : Int32) (122 : Int32)).bind fun x23 => (if x23 = true then (fI 6 2 h v0).bind fun x31 => (fS 6 2 h v0 (.int (x31 + (1 : Int32)))).bind fun h36 => f6_goOverWord_0 v0 n h36 else f6_goOverWord_42 h v0))
set_option maxRecDepth 100000 in
theorem vl6_goOverWord_0 {κ : Kx} (hc : CX κ RX6 cX6_goOverWord) (hr : RX κ ({ frames := 5, cells := 0, slots := 0, locals := 112 } : Room)) (hq : QX κ none 0 0) (hL : 2 = κ.2.2.2.2.1)  (v0 : Nat) : ∀ n (h : AH), V κ (wV) 0 0 0 [(0, .ref v0)] [] h (f6_goOverWord_0 v0 n h) := by
  have hn : ∀ i, i < 2 → i < κ.2.2.2.2.1 := fun i q => hL ▸ q
  intro n
  induction n with
  | zero => intros; exact v_none
  | succ n ih =>
    intro h
    rw [f6_goOverWord_0.eq_2]
    refine v_aload_n (i := 0) hc 0 rfl dX6_goOverWord_0 rfl ?_
    refine v_getV hc kX6 2 (by decide) w_229 rfl dX6_goOverWord_1 (gI rfl fun x1 => ?_)
    refine v_aload_n (i := 0) hc 0 rfl dX6_goOverWord_4 rfl ?_
    refine v_getV hc kX6 1 (by decide) w_228 rfl dX6_goOverWord_5 (gI rfl fun x5 => ?_)
    refine v_icmp_ge hc 42 dX6_goOverWord_8 rfl ?_ ?_
    · refine v_sub (L' := [(0, .ref v0)]) [0] rfl ?_
      exact vl6_goOverWord_42 hc hr hq hL h v0
    · refine v_aload_n (i := 0) hc 0 rfl dX6_goOverWord_11 rfl ?_
      refine v_aload_n (i := 0) hc 0 rfl dX6_goOverWord_12 rfl ?_
      refine v_getV hc kX6 2 (by decide) w_229 rfl dX6_goOverWord_13 (gI rfl fun x13 => ?_)
      refine v_cI hc (m_V' (As := [.int x13]) (b := v0) (rest := []) 1 hc hr (fun l D tys base => ct6_byteAt l D tys base h v0 x13) (fun x hx => ob6_byteAt hx) rfl s6_byteAt w_616 rfl ⟨Nat.le_of_ble_eq_true rfl, Nat.le_of_ble_eq_true rfl⟩ ⟨Nat.le_of_ble_eq_true rfl, Nat.le_of_ble_eq_true rfl⟩ (Nat.le_of_ble_eq_true rfl) dX6_goOverWord_16) fun x16 => ?_
      refine v_bipush (x := (97 : Int32)) hc dX6_goOverWord_19 zb_97 ?_
      refine v_bipush (x := (122 : Int32)) hc dX6_goOverWord_21 zb_122 ?_
      refine v_cB hc (m_SN' (As := [.int x16, .int (97 : Int32), .int (122 : Int32)]) (rest := []) 3 hc hr (fun l D tys base => ct8_isFrom l D tys base h x16 (97 : Int32) (122 : Int32)) s8_isFrom w_620 rfl ⟨Nat.le_of_ble_eq_true rfl, Nat.le_of_ble_eq_true rfl⟩ ⟨Nat.le_of_ble_eq_true rfl, Nat.le_of_ble_eq_true rfl⟩ (Nat.le_of_ble_eq_true rfl) dX6_goOverWord_23) fun x23 => ?_
      refine v_ifb_eq hc 42 dX6_goOverWord_26 rfl ?_ ?_
      · refine v_sub (L' := [(0, .ref v0)]) [0] rfl ?_
        exact vl6_goOverWord_42 hc hr hq hL h v0
      · refine v_aload_n (i := 0) hc 0 rfl dX6_goOverWord_29 rfl ?_
        refine v_dup hc dX6_goOverWord_30 rfl ?_
        refine v_getV hc kX6 2 (by decide) w_229 rfl dX6_goOverWord_31 (gI rfl fun x31 => ?_)
        refine v_iconst (x := (1 : Int32)) hc dX6_goOverWord_34 zi_1 ?_
        refine v_iadd hc dX6_goOverWord_35 ?_
        refine v_put hc kX6 2 (by decide) w_229 rfl rfl dX6_goOverWord_36 ⟨rfl, rfl⟩ fun h36 => ?_
        refine v_goto hc 0 dX6_goOverWord_39 rfl ?_
        refine v_sub (L' := [(0, .ref v0)]) [0] rfl ?_
        exact ih h36
def f6_goOverWord (h : AH) (this : Nat) : Option (AH) := (hObj 6 h this).bind fun _ => f6_goOverWord_0 this FU h
theorem ob6_goOverWord {h : AH} {this : Nat} {x : AH} (e : f6_goOverWord h this = some x) : ∃ fs, hObj 6 h this = some fs := by
  unfold f6_goOverWord at e
  obtain ⟨fs, h1, -⟩ := bd e
  exact ⟨fs, h1⟩
set_option maxRecDepth 100000 in
theorem ct6_goOverWord (l : Launch) (D : va_G) (tys : Tys) (base : Nat) (h : AH) (this : Nat) : Ct l D tys base yX6_goOverWord cX6_goOverWord 2 none 5 112 0 0 [.ref this] h (wV) (f6_goOverWord h this) := by
  refine Ct.intro (own := RX6) (L := [(0, .ref this)]) rfl (by decide) rfl (Nat.le_of_ble_eq_true rfl) fun κ hc hr hq hi hL => ?_
  have hn : ∀ i, i < 2 → i < κ.2.2.2.2.1 := fun i q => hL ▸ q
  unfold f6_goOverWord
  refine v_obj ?_
  refine v_sub (L' := [(0, .ref this)]) [0] rfl ?_
  exact vl6_goOverWord_0 hc hr hq hL this FU h
theorem s6_goOverWord : YV yX6_goOverWord RX6 cX6_goOverWord 2 none 0 := ⟨w_628, w_627, w_7, w_113, rfl, by decide +kernel, by decide +kernel, by decide +kernel⟩
def f6_kindOfSign (h : AH) (p0 : Int32) : Option (Int32) := (if p0 = (-1 : Int32) then some (33 : Int32) else (if p0 = (42 : Int32) then some (29 : Int32) else (if p0 = (43 : Int32) then some (27 : Int32) else (if p0 = (45 : Int32) then some (28 : Int32) else (if p0 = (59 : Int32) then some (32 : Int32) else (if p0 = (60 : Int32) then some (22 : Int32) else (if p0 = (61 : Int32) then some (24 : Int32) else (if p0 = (62 : Int32) then some (26 : Int32) else (if p0 = (91 : Int32) then some (30 : Int32) else (if p0 = (93 : Int32) then some (31 : Int32) else some (34 : Int32)))))))))))
set_option maxRecDepth 100000 in
theorem ct6_kindOfSign (l : Launch) (D : va_G) (tys : Tys) (base : Nat) (h : AH) (p0 : Int32) : Ct l D tys base yX6_kindOfSign cX6_kindOfSign 1 (some .int) 0 0 0 0 [.int p0] h (rI h) (f6_kindOfSign h p0) := by
  refine Ct.intro (own := RX6) (L := [(0, .int p0)]) rfl (by decide) rfl (Nat.le_of_ble_eq_true rfl) fun κ hc hr hq hi hL => ?_
  have hn : ∀ i, i < 1 → i < κ.2.2.2.2.1 := fun i q => hL ▸ q
  unfold f6_kindOfSign
  refine v_iload_n (i := 0) hc 0 rfl dX6_kindOfSign_0 rfl ?_
  refine v_ite (fun q0 => ?_) (fun q0 => ?_)
  · refine v_lsw hc 119 dX6_kindOfSign_1 (by decide) (off := 118) (by rw [q0]; decide) (by decide) ?_
    refine v_bipush (x := (33 : Int32)) hc dX6_kindOfSign_119 zb_33 ?_
    exact v_iret hc hq rfl rfl (Nat.le_of_ble_eq_true rfl) (Nat.le_of_ble_eq_true rfl) rfl dX6_kindOfSign_121
  · refine v_ite (fun q1 => ?_) (fun q1 => ?_)
    · refine v_lsw hc 107 dX6_kindOfSign_1 (by decide) (off := 106) (by rw [q1]; decide) (by decide) ?_
      refine v_bipush (x := (29 : Int32)) hc dX6_kindOfSign_107 zb_29 ?_
      exact v_iret hc hq rfl rfl (Nat.le_of_ble_eq_true rfl) (Nat.le_of_ble_eq_true rfl) rfl dX6_kindOfSign_109
    · refine v_ite (fun q2 => ?_) (fun q2 => ?_)
      · refine v_lsw hc 101 dX6_kindOfSign_1 (by decide) (off := 100) (by rw [q2]; decide) (by decide) ?_
        refine v_bipush (x := (27 : Int32)) hc dX6_kindOfSign_101 zb_27 ?_
        exact v_iret hc hq rfl rfl (Nat.le_of_ble_eq_true rfl) (Nat.le_of_ble_eq_true rfl) rfl dX6_kindOfSign_103
      · refine v_ite (fun q3 => ?_) (fun q3 => ?_)
        · refine v_lsw hc 104 dX6_kindOfSign_1 (by decide) (off := 103) (by rw [q3]; decide) (by decide) ?_
          refine v_bipush (x := (28 : Int32)) hc dX6_kindOfSign_104 zb_28 ?_
          exact v_iret hc hq rfl rfl (Nat.le_of_ble_eq_true rfl) (Nat.le_of_ble_eq_true rfl) rfl dX6_kindOfSign_106
        · refine v_ite (fun q4 => ?_) (fun q4 => ?_)
          · refine v_lsw hc 116 dX6_kindOfSign_1 (by decide) (off := 115) (by rw [q4]; decide) (by decide) ?_
            refine v_bipush (x := (32 : Int32)) hc dX6_kindOfSign_116 zb_32 ?_
            exact v_iret hc hq rfl rfl (Nat.le_of_ble_eq_true rfl) (Nat.le_of_ble_eq_true rfl) rfl dX6_kindOfSign_118
          · refine v_ite (fun q5 => ?_) (fun q5 => ?_)
            · refine v_lsw hc 92 dX6_kindOfSign_1 (by decide) (off := 91) (by rw [q5]; decide) (by decide) ?_
              refine v_bipush (x := (22 : Int32)) hc dX6_kindOfSign_92 zb_22 ?_
              exact v_iret hc hq rfl rfl (Nat.le_of_ble_eq_true rfl) (Nat.le_of_ble_eq_true rfl) rfl dX6_kindOfSign_94
            · refine v_ite (fun q6 => ?_) (fun q6 => ?_)
              · refine v_lsw hc 95 dX6_kindOfSign_1 (by decide) (off := 94) (by rw [q6]; decide) (by decide) ?_
                refine v_bipush (x := (24 : Int32)) hc dX6_kindOfSign_95 zb_24 ?_
                exact v_iret hc hq rfl rfl (Nat.le_of_ble_eq_true rfl) (Nat.le_of_ble_eq_true rfl) rfl dX6_kindOfSign_97
              · refine v_ite (fun q7 => ?_) (fun q7 => ?_)
                · refine v_lsw hc 98 dX6_kindOfSign_1 (by decide) (off := 97) (by rw [q7]; decide) (by decide) ?_
                  refine v_bipush (x := (26 : Int32)) hc dX6_kindOfSign_98 zb_26 ?_
                  exact v_iret hc hq rfl rfl (Nat.le_of_ble_eq_true rfl) (Nat.le_of_ble_eq_true rfl) rfl dX6_kindOfSign_100
                · refine v_ite (fun q8 => ?_) (fun q8 => ?_)
                  · refine v_lsw hc 110 dX6_kindOfSign_1 (by decide) (off := 109) (by rw [q8]; decide) (by decide) ?_
                    refine v_bipush (x := (30 : Int32)) hc dX6_kindOfSign_110 zb_30 ?_
                    exact v_iret hc hq rfl rfl (Nat.le_of_ble_eq_true rfl) (Nat.le_of_ble_eq_true rfl) rfl dX6_kindOfSign_112
                  · refine v_ite (fun q9 => ?_) (fun q9 => ?_)
                    · refine v_lsw hc 113 dX6_kindOfSign_1 (by decide) (off := 112) (by rw [q9]; decide) (by decide) ?_
                      refine v_bipush (x := (31 : Int32)) hc dX6_kindOfSign_113 zb_31 ?_
                      exact v_iret hc hq rfl rfl (Nat.le_of_ble_eq_true rfl) (Nat.le_of_ble_eq_true rfl) rfl dX6_kindOfSign_115
                    · refine v_lsw hc 122 dX6_kindOfSign_1 (by decide) (off := 121) (by rw [lv_osw (k := (-1 : Int32)) q0 (by decide)]; rw [lv_osw (k := (42 : Int32)) q1 (by decide)]; rw [lv_osw (k := (43 : Int32)) q2 (by decide)]; rw [lv_osw (k := (45 : Int32)) q3 (by decide)]; rw [lv_osw (k := (59 : Int32)) q4 (by decide)]; rw [lv_osw (k := (60 : Int32)) q5 (by decide)]; rw [lv_osw (k := (61 : Int32)) q6 (by decide)]; rw [lv_osw (k := (62 : Int32)) q7 (by decide)]; rw [lv_osw (k := (91 : Int32)) q8 (by decide)]; rw [lv_osw (k := (93 : Int32)) q9 (by decide)]; rfl) (by decide) ?_
                      refine v_bipush (x := (34 : Int32)) hc dX6_kindOfSign_122 zb_34 ?_
                      exact v_iret hc hq rfl rfl (Nat.le_of_ble_eq_true rfl) (Nat.le_of_ble_eq_true rfl) rfl dX6_kindOfSign_124
theorem s6_kindOfSign : YS yX6_kindOfSign cX6_kindOfSign 1 (some .int) 1 := ⟨w_688, w_687, w_113, by decide +kernel, by decide +kernel, by decide +kernel⟩
def f6_goOverSign_59 (h : AH) (v0 : Nat) : Option (AH) := (fI 6 4 h v0).bind fun x61 => (if x61 = (22 : Int32) then (fS 6 4 h v0 (.int (23 : Int32))).bind fun h76 => (fI 6 2 h76 v0).bind fun x81 => (fS 6 2 h76 v0 (.int (x81 + (1 : Int32)))).bind fun h86 => some h86 else (fS 6 4 h v0 (.int (25 : Int32))).bind fun h76 => (fI 6 2 h76 v0).bind fun x81 => (fS 6 2 h76 v0 (.int (x81 + (1 : Int32)))).bind fun h86 => some h86)
set_option maxRecDepth 100000 in
theorem vl6_goOverSign_59 {κ : Kx} (hc : CX κ RX6 cX6_goOverSign) (hr : RX κ ({ frames := 1, cells := 0, slots := 0, locals := 21 } : Room)) (hq : QX κ none 0 0) (hL : 2 = κ.2.2.2.2.1) (h : AH) (v0 : Nat) : V κ (wV) 0 0 59 [(0, .ref v0)] [] h (f6_goOverSign_59 h v0) := by
  have hn : ∀ i, i < 2 → i < κ.2.2.2.2.1 := fun i q => hL ▸ q
  unfold f6_goOverSign_59
  refine v_aload_n (i := 0) hc 0 rfl dX6_goOverSign_59 rfl ?_
  refine v_aload_n (i := 0) hc 0 rfl dX6_goOverSign_60 rfl ?_
  refine v_getV hc kX6 4 (by decide) w_232 rfl dX6_goOverSign_61 (gI rfl fun x61 => ?_)
  refine v_bipush (x := (22 : Int32)) hc dX6_goOverSign_64 zb_22 ?_
  refine v_icmp_ne hc 74 dX6_goOverSign_66 rfl ?_ ?_
  · refine v_bipush (x := (25 : Int32)) hc dX6_goOverSign_74 zb_25 ?_
    refine v_put hc kX6 4 (by decide) w_232 rfl rfl dX6_goOverSign_76 ⟨rfl, rfl⟩ fun h76 => ?_
    refine v_aload_n (i := 0) hc 0 rfl dX6_goOverSign_79 rfl ?_
    refine v_dup hc dX6_goOverSign_80 rfl ?_
    refine v_getV hc kX6 2 (by decide) w_229 rfl dX6_goOverSign_81 (gI rfl fun x81 => ?_)
    refine v_iconst (x := (1 : Int32)) hc dX6_goOverSign_84 zi_1 ?_
    refine v_iadd hc dX6_goOverSign_85 ?_
    refine v_put hc kX6 2 (by decide) w_229 rfl rfl dX6_goOverSign_86 ⟨rfl, rfl⟩ fun h86 => ?_
    exact v_vret hc hq (Nat.le_of_ble_eq_true rfl) (Nat.le_of_ble_eq_true rfl) rfl dX6_goOverSign_89
  · refine v_bipush (x := (23 : Int32)) hc dX6_goOverSign_69 zb_23 ?_
    refine v_goto hc 76 dX6_goOverSign_71 rfl ?_
    refine v_put hc kX6 4 (by decide) w_232 rfl rfl dX6_goOverSign_76 ⟨rfl, rfl⟩ fun h76 => ?_
    refine v_aload_n (i := 0) hc 0 rfl dX6_goOverSign_79 rfl ?_
    refine v_dup hc dX6_goOverSign_80 rfl ?_
    refine v_getV hc kX6 2 (by decide) w_229 rfl dX6_goOverSign_81 (gI rfl fun x81 => ?_)
    refine v_iconst (x := (1 : Int32)) hc dX6_goOverSign_84 zi_1 ?_
    refine v_iadd hc dX6_goOverSign_85 ?_
    refine v_put hc kX6 2 (by decide) w_229 rfl rfl dX6_goOverSign_86 ⟨rfl, rfl⟩ fun h86 => ?_
    exact v_vret hc hq (Nat.le_of_ble_eq_true rfl) (Nat.le_of_ble_eq_true rfl) rfl dX6_goOverSign_89
def f6_goOverSign (h : AH) (this : Nat) (p0 : Int32) : Option (AH) := (hObj 6 h this).bind fun _ => (f6_kindOfSign h p0).bind fun x2 => (fS 6 4 h this (.int x2)).bind fun h5 => (fI 6 4 h5 this).bind fun x9 => (if x9 = (33 : Int32) then some h5 else (fI 6 2 h5 this).bind fun x20 => (fS 6 2 h5 this (.int (x20 + (1 : Int32)))).bind fun h25 => (fI 6 2 h25 this).bind fun x30 => (f6_byteAt h25 this x30).bind fun x33 => (if x33 = (61 : Int32) then (fI 6 4 h25 this).bind fun x42 => (if x42 = (22 : Int32) then f6_goOverSign_59 h25 this else (fI 6 4 h25 this).bind fun x51 => (if x51 = (26 : Int32) then f6_goOverSign_59 h25 this else some h25)) else some h25))
theorem ob6_goOverSign {h : AH} {this : Nat} {p0 : Int32} {x : AH} (e : f6_goOverSign h this p0 = some x) : ∃ fs, hObj 6 h this = some fs := by
  unfold f6_goOverSign at e
  obtain ⟨fs, h1, -⟩ := bd e
  exact ⟨fs, h1⟩
set_option maxRecDepth 100000 in
theorem ct6_goOverSign (l : Launch) (D : va_G) (tys : Tys) (base : Nat) (h : AH) (this : Nat) (p0 : Int32) : Ct l D tys base yX6_goOverSign cX6_goOverSign 2 none 1 21 0 0 [.ref this, .int p0] h (wV) (f6_goOverSign h this p0) := by
  refine Ct.intro (own := RX6) (L := [(0, .ref this), (1, .int p0)]) rfl (by decide) rfl (Nat.le_of_ble_eq_true rfl) fun κ hc hr hq hi hL => ?_
  have hn : ∀ i, i < 2 → i < κ.2.2.2.2.1 := fun i q => hL ▸ q
  unfold f6_goOverSign
  refine v_obj ?_
  refine v_aload_n (i := 0) hc 0 rfl dX6_goOverSign_0 rfl ?_
  refine v_iload_n (i := 1) hc 1 rfl dX6_goOverSign_1 rfl ?_
  refine v_cI hc (m_S' (As := [.int p0]) (rest := [.ref this]) 1 hc hr (fun l D tys base => ct6_kindOfSign l D tys base h p0) s6_kindOfSign w_686 rfl ⟨Nat.le_of_ble_eq_true rfl, Nat.le_of_ble_eq_true rfl⟩ ⟨Nat.le_of_ble_eq_true rfl, Nat.le_of_ble_eq_true rfl⟩ (Nat.le_of_ble_eq_true rfl) dX6_goOverSign_2) fun x2 => ?_
  refine v_put hc kX6 4 (by decide) w_232 rfl rfl dX6_goOverSign_5 ⟨rfl, rfl⟩ fun h5 => ?_
  refine v_aload_n (i := 0) hc 0 rfl dX6_goOverSign_8 rfl ?_
  refine v_getV hc kX6 4 (by decide) w_232 rfl dX6_goOverSign_9 (gI rfl fun x9 => ?_)
  refine v_bipush (x := (33 : Int32)) hc dX6_goOverSign_12 zb_33 ?_
  refine v_icmp_ne hc 18 dX6_goOverSign_14 rfl ?_ ?_
  · refine v_aload_n (i := 0) hc 0 rfl dX6_goOverSign_18 rfl ?_
    refine v_dup hc dX6_goOverSign_19 rfl ?_
    refine v_getV hc kX6 2 (by decide) w_229 rfl dX6_goOverSign_20 (gI rfl fun x20 => ?_)
    refine v_iconst (x := (1 : Int32)) hc dX6_goOverSign_23 zi_1 ?_
    refine v_iadd hc dX6_goOverSign_24 ?_
    refine v_put hc kX6 2 (by decide) w_229 rfl rfl dX6_goOverSign_25 ⟨rfl, rfl⟩ fun h25 => ?_
    refine v_aload_n (i := 0) hc 0 rfl dX6_goOverSign_28 rfl ?_
    refine v_aload_n (i := 0) hc 0 rfl dX6_goOverSign_29 rfl ?_
    refine v_getV hc kX6 2 (by decide) w_229 rfl dX6_goOverSign_30 (gI rfl fun x30 => ?_)
    refine v_cI hc (m_V' (As := [.int x30]) (b := this) (rest := []) 1 hc hr (fun l D tys base => ct6_byteAt l D tys base h25 this x30) (fun x hx => ob6_byteAt hx) rfl s6_byteAt w_616 rfl ⟨Nat.le_of_ble_eq_true rfl, Nat.le_of_ble_eq_true rfl⟩ ⟨Nat.le_of_ble_eq_true rfl, Nat.le_of_ble_eq_true rfl⟩ (Nat.le_of_ble_eq_true rfl) dX6_goOverSign_33) fun x33 => ?_
    refine v_bipush (x := (61 : Int32)) hc dX6_goOverSign_36 zb_61 ?_
    refine v_icmp_ne hc 89 dX6_goOverSign_38 rfl ?_ ?_
    · exact v_vret hc hq (Nat.le_of_ble_eq_true rfl) (Nat.le_of_ble_eq_true rfl) rfl dX6_goOverSign_89
    · refine v_aload_n (i := 0) hc 0 rfl dX6_goOverSign_41 rfl ?_
      refine v_getV hc kX6 4 (by decide) w_232 rfl dX6_goOverSign_42 (gI rfl fun x42 => ?_)
      refine v_bipush (x := (22 : Int32)) hc dX6_goOverSign_45 zb_22 ?_
      refine v_icmp_eq hc 59 dX6_goOverSign_47 rfl ?_ ?_
      · refine v_sub (L' := [(0, .ref this)]) [0] rfl ?_
        exact vl6_goOverSign_59 hc hr hq hL h25 this
      · refine v_aload_n (i := 0) hc 0 rfl dX6_goOverSign_50 rfl ?_
        refine v_getV hc kX6 4 (by decide) w_232 rfl dX6_goOverSign_51 (gI rfl fun x51 => ?_)
        refine v_bipush (x := (26 : Int32)) hc dX6_goOverSign_54 zb_26 ?_
        refine v_icmp_ne hc 89 dX6_goOverSign_56 rfl ?_ ?_
        · exact v_vret hc hq (Nat.le_of_ble_eq_true rfl) (Nat.le_of_ble_eq_true rfl) rfl dX6_goOverSign_89
        · refine v_sub (L' := [(0, .ref this)]) [0] rfl ?_
          exact vl6_goOverSign_59 hc hr hq hL h25 this
  · exact v_vret hc hq (Nat.le_of_ble_eq_true rfl) (Nat.le_of_ble_eq_true rfl) rfl dX6_goOverSign_17
theorem s6_goOverSign : YV yX6_goOverSign RX6 cX6_goOverSign 2 none 1 := ⟨w_685, w_684, w_9, w_113, rfl, by decide +kernel, by decide +kernel, by decide +kernel⟩
def f6_nextToken_37 (h : AH) (v0 : Nat) : Option (AH) := (fI 6 2 h v0).bind fun x39 => (fS 6 3 h v0 (.int x39)).bind fun h42 => (fI 6 2 h42 v0).bind fun x47 => (f6_byteAt h42 v0 x47).bind fun x50 => (f8_isFrom h42 x50 (48 : Int32) (57 : Int32)).bind fun x59 => (if x59 = true then (f6_goOverNumber h42 v0).bind fun x66 => some x66 else (f8_isFrom h42 x50 (97 : Int32) (122 : Int32)).bind fun x77 => (if x77 = true then (f6_goOverWord h42 v0).bind fun x84 => some x84 else (f6_goOverSign h42 v0 x50).bind fun x92 => some x92))
set_option maxRecDepth 100000 in
theorem vl6_nextToken_37 {κ : Kx} (hc : CX κ RX6 cX6_nextToken) (hr : RX κ ({ frames := 6, cells := 0, slots := 0, locals := 133 } : Room)) (hq : QX κ none 0 0) (hL : 2 = κ.2.2.2.2.1) (h : AH) (v0 : Nat) : V κ (wV) 0 0 37 [(0, .ref v0)] [] h (f6_nextToken_37 h v0) := by
  have hn : ∀ i, i < 2 → i < κ.2.2.2.2.1 := fun i q => hL ▸ q
  unfold f6_nextToken_37
  refine v_aload_n (i := 0) hc 0 rfl dX6_nextToken_37 rfl ?_
  refine v_aload_n (i := 0) hc 0 rfl dX6_nextToken_38 rfl ?_
  refine v_getV hc kX6 2 (by decide) w_229 rfl dX6_nextToken_39 (gI rfl fun x39 => ?_)
  refine v_put hc kX6 3 (by decide) w_230 rfl rfl dX6_nextToken_42 ⟨rfl, rfl⟩ fun h42 => ?_
  refine v_aload_n (i := 0) hc 0 rfl dX6_nextToken_45 rfl ?_
  refine v_aload_n (i := 0) hc 0 rfl dX6_nextToken_46 rfl ?_
  refine v_getV hc kX6 2 (by decide) w_229 rfl dX6_nextToken_47 (gI rfl fun x47 => ?_)
  refine v_cI hc (m_V' (As := [.int x47]) (b := v0) (rest := []) 1 hc hr (fun l D tys base => ct6_byteAt l D tys base h42 v0 x47) (fun x hx => ob6_byteAt hx) rfl s6_byteAt w_616 rfl ⟨Nat.le_of_ble_eq_true rfl, Nat.le_of_ble_eq_true rfl⟩ ⟨Nat.le_of_ble_eq_true rfl, Nat.le_of_ble_eq_true rfl⟩ (Nat.le_of_ble_eq_true rfl) dX6_nextToken_50) fun x50 => ?_
  refine v_istore_n (i := 1) (L' := [(1, .int x50), (0, .ref v0)]) hc dX6_nextToken_53 rfl (hn 1 (Nat.le_of_ble_eq_true rfl)) rfl ?_
  refine v_iload_n (i := 1) hc 0 rfl dX6_nextToken_54 rfl ?_
  refine v_bipush (x := (48 : Int32)) hc dX6_nextToken_55 zb_48 ?_
  refine v_bipush (x := (57 : Int32)) hc dX6_nextToken_57 zb_57 ?_
  refine v_cB hc (m_SN' (As := [.int x50, .int (48 : Int32), .int (57 : Int32)]) (rest := []) 3 hc hr (fun l D tys base => ct8_isFrom l D tys base h42 x50 (48 : Int32) (57 : Int32)) s8_isFrom w_620 rfl ⟨Nat.le_of_ble_eq_true rfl, Nat.le_of_ble_eq_true rfl⟩ ⟨Nat.le_of_ble_eq_true rfl, Nat.le_of_ble_eq_true rfl⟩ (Nat.le_of_ble_eq_true rfl) dX6_nextToken_59) fun x59 => ?_
  refine v_ifb_eq hc 72 dX6_nextToken_62 rfl ?_ ?_
  · refine v_iload_n (i := 1) hc 0 rfl dX6_nextToken_72 rfl ?_
    refine v_bipush (x := (97 : Int32)) hc dX6_nextToken_73 zb_97 ?_
    refine v_bipush (x := (122 : Int32)) hc dX6_nextToken_75 zb_122 ?_
    refine v_cB hc (m_SN' (As := [.int x50, .int (97 : Int32), .int (122 : Int32)]) (rest := []) 3 hc hr (fun l D tys base => ct8_isFrom l D tys base h42 x50 (97 : Int32) (122 : Int32)) s8_isFrom w_620 rfl ⟨Nat.le_of_ble_eq_true rfl, Nat.le_of_ble_eq_true rfl⟩ ⟨Nat.le_of_ble_eq_true rfl, Nat.le_of_ble_eq_true rfl⟩ (Nat.le_of_ble_eq_true rfl) dX6_nextToken_77) fun x77 => ?_
    refine v_ifb_eq hc 90 dX6_nextToken_80 rfl ?_ ?_
    · refine v_aload_n (i := 0) hc 1 rfl dX6_nextToken_90 rfl ?_
      refine v_iload_n (i := 1) hc 0 rfl dX6_nextToken_91 rfl ?_
      refine v_cV hc (m_V' (As := [.int x50]) (b := v0) (rest := []) 1 hc hr (fun l D tys base => ct6_goOverSign l D tys base h42 v0 x50) (fun x hx => ob6_goOverSign hx) rfl s6_goOverSign w_682 rfl ⟨Nat.le_of_ble_eq_true rfl, Nat.le_of_ble_eq_true rfl⟩ ⟨Nat.le_of_ble_eq_true rfl, Nat.le_of_ble_eq_true rfl⟩ (Nat.le_of_ble_eq_true rfl) dX6_nextToken_92) fun x92 => ?_
      exact v_vret hc hq (Nat.le_of_ble_eq_true rfl) (Nat.le_of_ble_eq_true rfl) rfl dX6_nextToken_95
    · refine v_aload_n (i := 0) hc 1 rfl dX6_nextToken_83 rfl ?_
      refine v_cV hc (m_V' (As := []) (b := v0) (rest := []) 0 hc hr (fun l D tys base => ct6_goOverWord l D tys base h42 v0) (fun x hx => ob6_goOverWord hx) rfl s6_goOverWord w_625 rfl ⟨Nat.le_of_ble_eq_true rfl, Nat.le_of_ble_eq_true rfl⟩ ⟨Nat.le_of_ble_eq_true rfl, Nat.le_of_ble_eq_true rfl⟩ (Nat.le_of_ble_eq_true rfl) dX6_nextToken_84) fun x84 => ?_
      refine v_goto hc 95 dX6_nextToken_87 rfl ?_
      exact v_vret hc hq (Nat.le_of_ble_eq_true rfl) (Nat.le_of_ble_eq_true rfl) rfl dX6_nextToken_95
  · refine v_aload_n (i := 0) hc 1 rfl dX6_nextToken_65 rfl ?_
    refine v_cV hc (m_V' (As := []) (b := v0) (rest := []) 0 hc hr (fun l D tys base => ct6_goOverNumber l D tys base h42 v0) (fun x hx => ob6_goOverNumber hx) rfl s6_goOverNumber w_621 rfl ⟨Nat.le_of_ble_eq_true rfl, Nat.le_of_ble_eq_true rfl⟩ ⟨Nat.le_of_ble_eq_true rfl, Nat.le_of_ble_eq_true rfl⟩ (Nat.le_of_ble_eq_true rfl) dX6_nextToken_66) fun x66 => ?_
    refine v_goto hc 95 dX6_nextToken_69 rfl ?_
    exact v_vret hc hq (Nat.le_of_ble_eq_true rfl) (Nat.le_of_ble_eq_true rfl) rfl dX6_nextToken_95
def f6_nextToken_0 (v0 : Nat) : Nat → AH → Option (AH)
  | 0, _ => none
  | n + 1, h => (fI 6 2 h v0).bind fun x1 => (fI 6 1 h v0).bind fun x5 => (if x5 ≤ x1 then f6_nextToken_37 h v0 else (fI 6 2 h v0).bind fun x13 => (f6_byteAt h v0 x13).bind fun x16 => (if x16 = (32 : Int32) then (fI 6 2 h v0).bind fun x26 => (fS 6 2 h v0 (.int (x26 + (1 : Int32)))).bind fun h31 => f6_nextToken_0 v0 n h31 else f6_nextToken_37 h v0))
set_option maxRecDepth 100000 in
theorem vl6_nextToken_0 {κ : Kx} (hc : CX κ RX6 cX6_nextToken) (hr : RX κ ({ frames := 6, cells := 0, slots := 0, locals := 133 } : Room)) (hq : QX κ none 0 0) (hL : 2 = κ.2.2.2.2.1)  (v0 : Nat) : ∀ n (h : AH), V κ (wV) 0 0 0 [(0, .ref v0)] [] h (f6_nextToken_0 v0 n h) := by
  have hn : ∀ i, i < 2 → i < κ.2.2.2.2.1 := fun i q => hL ▸ q
  intro n
  induction n with
  | zero => intros; exact v_none
  | succ n ih =>
    intro h
    rw [f6_nextToken_0.eq_2]
    refine v_aload_n (i := 0) hc 0 rfl dX6_nextToken_0 rfl ?_
    refine v_getV hc kX6 2 (by decide) w_229 rfl dX6_nextToken_1 (gI rfl fun x1 => ?_)
    refine v_aload_n (i := 0) hc 0 rfl dX6_nextToken_4 rfl ?_
    refine v_getV hc kX6 1 (by decide) w_228 rfl dX6_nextToken_5 (gI rfl fun x5 => ?_)
    refine v_icmp_ge hc 37 dX6_nextToken_8 rfl ?_ ?_
    · refine v_sub (L' := [(0, .ref v0)]) [0] rfl ?_
      exact vl6_nextToken_37 hc hr hq hL h v0
    · refine v_aload_n (i := 0) hc 0 rfl dX6_nextToken_11 rfl ?_
      refine v_aload_n (i := 0) hc 0 rfl dX6_nextToken_12 rfl ?_
      refine v_getV hc kX6 2 (by decide) w_229 rfl dX6_nextToken_13 (gI rfl fun x13 => ?_)
      refine v_cI hc (m_V' (As := [.int x13]) (b := v0) (rest := []) 1 hc hr (fun l D tys base => ct6_byteAt l D tys base h v0 x13) (fun x hx => ob6_byteAt hx) rfl s6_byteAt w_616 rfl ⟨Nat.le_of_ble_eq_true rfl, Nat.le_of_ble_eq_true rfl⟩ ⟨Nat.le_of_ble_eq_true rfl, Nat.le_of_ble_eq_true rfl⟩ (Nat.le_of_ble_eq_true rfl) dX6_nextToken_16) fun x16 => ?_
      refine v_bipush (x := (32 : Int32)) hc dX6_nextToken_19 zb_32 ?_
      refine v_icmp_ne hc 37 dX6_nextToken_21 rfl ?_ ?_
      · refine v_sub (L' := [(0, .ref v0)]) [0] rfl ?_
        exact vl6_nextToken_37 hc hr hq hL h v0
      · refine v_aload_n (i := 0) hc 0 rfl dX6_nextToken_24 rfl ?_
        refine v_dup hc dX6_nextToken_25 rfl ?_
        refine v_getV hc kX6 2 (by decide) w_229 rfl dX6_nextToken_26 (gI rfl fun x26 => ?_)
        refine v_iconst (x := (1 : Int32)) hc dX6_nextToken_29 zi_1 ?_
        refine v_iadd hc dX6_nextToken_30 ?_
        refine v_put hc kX6 2 (by decide) w_229 rfl rfl dX6_nextToken_31 ⟨rfl, rfl⟩ fun h31 => ?_
        refine v_goto hc 0 dX6_nextToken_34 rfl ?_
        refine v_sub (L' := [(0, .ref v0)]) [0] rfl ?_
        exact ih h31
def f6_nextToken (h : AH) (this : Nat) : Option (AH) := (hObj 6 h this).bind fun _ => f6_nextToken_0 this FU h
theorem ob6_nextToken {h : AH} {this : Nat} {x : AH} (e : f6_nextToken h this = some x) : ∃ fs, hObj 6 h this = some fs := by
  unfold f6_nextToken at e
  obtain ⟨fs, h1, -⟩ := bd e
  exact ⟨fs, h1⟩
set_option maxRecDepth 100000 in
theorem ct6_nextToken (l : Launch) (D : va_G) (tys : Tys) (base : Nat) (h : AH) (this : Nat) : Ct l D tys base yX6_nextToken cX6_nextToken 2 none 6 133 0 0 [.ref this] h (wV) (f6_nextToken h this) := by
  refine Ct.intro (own := RX6) (L := [(0, .ref this)]) rfl (by decide) rfl (Nat.le_of_ble_eq_true rfl) fun κ hc hr hq hi hL => ?_
  have hn : ∀ i, i < 2 → i < κ.2.2.2.2.1 := fun i q => hL ▸ q
  unfold f6_nextToken
  refine v_obj ?_
  refine v_sub (L' := [(0, .ref this)]) [0] rfl ?_
  exact vl6_nextToken_0 hc hr hq hL this FU h
theorem s6_nextToken : YV yX6_nextToken RX6 cX6_nextToken 2 none 0 := ⟨w_615, w_613, w_614, w_113, rfl, by decide +kernel, by decide +kernel, by decide +kernel⟩
def f1_beginsClause (h : AH) (this : Nat) (p0 : Int32) : Option (Bool) := (hObj 1 h this).bind fun _ => (fQ 1 0 h this).bind fun x1 => (oM x1 ((if p0 = (13 : Int32) then some true else (if p0 = (14 : Int32) then some true else (if p0 = (15 : Int32) then some true else (if p0 = (16 : Int32) then some true else some false))))) fun a4 => (if p0 = (10 : Int32) then some true else (if p0 = (11 : Int32) then some true else (if p0 = (12 : Int32) then some true else some false))))
theorem ob1_beginsClause {h : AH} {this : Nat} {p0 : Int32} {x : Bool} (e : f1_beginsClause h this p0 = some x) : ∃ fs, hObj 1 h this = some fs := by
  unfold f1_beginsClause at e
  obtain ⟨fs, h1, -⟩ := bd e
  exact ⟨fs, h1⟩
set_option maxRecDepth 100000 in
theorem ct1_beginsClause (l : Launch) (D : va_G) (tys : Tys) (base : Nat) (h : AH) (this : Nat) (p0 : Int32) : Ct l D tys base yX1_beginsClause cX1_beginsClause 2 (some .boolean) 0 0 0 0 [.ref this, .int p0] h (rB h) (f1_beginsClause h this p0) := by
  refine Ct.intro (own := RX1) (L := [(0, .ref this), (1, .int p0)]) rfl (by decide) rfl (Nat.le_of_ble_eq_true rfl) fun κ hc hr hq hi hL => ?_
  have hn : ∀ i, i < 2 → i < κ.2.2.2.2.1 := fun i q => hL ▸ q
  unfold f1_beginsClause
  refine v_obj ?_
  refine v_aload_n (i := 0) hc 0 rfl dX1_beginsClause_0 rfl ?_
  refine v_getV hc kX1 0 (by decide) w_259 rfl dX1_beginsClause_1 (gQ rfl fun x1 => ?_)
  refine v_ifnull hc 31 dX1_beginsClause_4 rfl ?_ ?_
  · intro hx4
    subst hx4
    refine v_iload_n (i := 1) hc 1 rfl dX1_beginsClause_31 rfl ?_
    refine v_bipush (x := (13 : Int32)) hc dX1_beginsClause_32 zb_13 ?_
    refine v_icmp_eq hc 55 dX1_beginsClause_34 rfl ?_ ?_
    · refine v_iconst (x := (1 : Int32)) hc dX1_beginsClause_55 zi_1 ?_
      refine v_goto hc 60 dX1_beginsClause_56 rfl ?_
      exact v_iret (v := bI true) hc hq rfl (nar_b true) (Nat.le_of_ble_eq_true rfl) (Nat.le_of_ble_eq_true rfl) rfl dX1_beginsClause_60
    · refine v_iload_n (i := 1) hc 1 rfl dX1_beginsClause_37 rfl ?_
      refine v_bipush (x := (14 : Int32)) hc dX1_beginsClause_38 zb_14 ?_
      refine v_icmp_eq hc 55 dX1_beginsClause_40 rfl ?_ ?_
      · refine v_iconst (x := (1 : Int32)) hc dX1_beginsClause_55 zi_1 ?_
        refine v_goto hc 60 dX1_beginsClause_56 rfl ?_
        exact v_iret (v := bI true) hc hq rfl (nar_b true) (Nat.le_of_ble_eq_true rfl) (Nat.le_of_ble_eq_true rfl) rfl dX1_beginsClause_60
      · refine v_iload_n (i := 1) hc 1 rfl dX1_beginsClause_43 rfl ?_
        refine v_bipush (x := (15 : Int32)) hc dX1_beginsClause_44 zb_15 ?_
        refine v_icmp_eq hc 55 dX1_beginsClause_46 rfl ?_ ?_
        · refine v_iconst (x := (1 : Int32)) hc dX1_beginsClause_55 zi_1 ?_
          refine v_goto hc 60 dX1_beginsClause_56 rfl ?_
          exact v_iret (v := bI true) hc hq rfl (nar_b true) (Nat.le_of_ble_eq_true rfl) (Nat.le_of_ble_eq_true rfl) rfl dX1_beginsClause_60
        · refine v_iload_n (i := 1) hc 1 rfl dX1_beginsClause_49 rfl ?_
          refine v_bipush (x := (16 : Int32)) hc dX1_beginsClause_50 zb_16 ?_
          refine v_icmp_ne hc 59 dX1_beginsClause_52 rfl ?_ ?_
          · refine v_iconst (x := (0 : Int32)) hc dX1_beginsClause_59 zi_0 ?_
            exact v_iret (v := bI false) hc hq rfl (nar_b false) (Nat.le_of_ble_eq_true rfl) (Nat.le_of_ble_eq_true rfl) rfl dX1_beginsClause_60
          · refine v_iconst (x := (1 : Int32)) hc dX1_beginsClause_55 zi_1 ?_
            refine v_goto hc 60 dX1_beginsClause_56 rfl ?_
            exact v_iret (v := bI true) hc hq rfl (nar_b true) (Nat.le_of_ble_eq_true rfl) (Nat.le_of_ble_eq_true rfl) rfl dX1_beginsClause_60
  · intro a4 hx4
    subst hx4
    refine v_iload_n (i := 1) hc 1 rfl dX1_beginsClause_7 rfl ?_
    refine v_bipush (x := (10 : Int32)) hc dX1_beginsClause_8 zb_10 ?_
    refine v_icmp_eq hc 25 dX1_beginsClause_10 rfl ?_ ?_
    · refine v_iconst (x := (1 : Int32)) hc dX1_beginsClause_25 zi_1 ?_
      refine v_goto hc 30 dX1_beginsClause_26 rfl ?_
      exact v_iret (v := bI true) hc hq rfl (nar_b true) (Nat.le_of_ble_eq_true rfl) (Nat.le_of_ble_eq_true rfl) rfl dX1_beginsClause_30
    · refine v_iload_n (i := 1) hc 1 rfl dX1_beginsClause_13 rfl ?_
      refine v_bipush (x := (11 : Int32)) hc dX1_beginsClause_14 zb_11 ?_
      refine v_icmp_eq hc 25 dX1_beginsClause_16 rfl ?_ ?_
      · refine v_iconst (x := (1 : Int32)) hc dX1_beginsClause_25 zi_1 ?_
        refine v_goto hc 30 dX1_beginsClause_26 rfl ?_
        exact v_iret (v := bI true) hc hq rfl (nar_b true) (Nat.le_of_ble_eq_true rfl) (Nat.le_of_ble_eq_true rfl) rfl dX1_beginsClause_30
      · refine v_iload_n (i := 1) hc 1 rfl dX1_beginsClause_19 rfl ?_
        refine v_bipush (x := (12 : Int32)) hc dX1_beginsClause_20 zb_12 ?_
        refine v_icmp_ne hc 29 dX1_beginsClause_22 rfl ?_ ?_
        · refine v_iconst (x := (0 : Int32)) hc dX1_beginsClause_29 zi_0 ?_
          exact v_iret (v := bI false) hc hq rfl (nar_b false) (Nat.le_of_ble_eq_true rfl) (Nat.le_of_ble_eq_true rfl) rfl dX1_beginsClause_30
        · refine v_iconst (x := (1 : Int32)) hc dX1_beginsClause_25 zi_1 ?_
          refine v_goto hc 30 dX1_beginsClause_26 rfl ?_
          exact v_iret (v := bI true) hc hq rfl (nar_b true) (Nat.le_of_ble_eq_true rfl) (Nat.le_of_ble_eq_true rfl) rfl dX1_beginsClause_30
theorem s1_beginsClause : YV yX1_beginsClause RX1 cX1_beginsClause 2 (some .boolean) 1 := ⟨w_696, w_695, w_11, w_114, rfl, by decide +kernel, by decide +kernel, by decide +kernel⟩
def f1_fail (h : AH) (this : Nat) (p0 : Nat) (p1 : Int32) : Option (AH) := (hObj 1 h this).bind fun _ => (fI 6 3 h p0).bind fun x5 => (fS 1 8 h this (.int (((1 : Int32) + ((8 : Int32) * x5)) + p1))).bind fun h12 => some h12
theorem ob1_fail {h : AH} {this : Nat} {p0 : Nat} {p1 : Int32} {x : AH} (e : f1_fail h this p0 p1 = some x) : ∃ fs, hObj 1 h this = some fs := by
  unfold f1_fail at e
  obtain ⟨fs, h1, -⟩ := bd e
  exact ⟨fs, h1⟩
set_option maxRecDepth 100000 in
theorem ct1_fail (l : Launch) (D : va_G) (tys : Tys) (base : Nat) (h : AH) (this : Nat) (p0 : Nat) (p1 : Int32) : Ct l D tys base yX1_fail cX1_fail 3 none 0 0 0 0 [.ref this, .ref p0, .int p1] h (wV) (f1_fail h this p0 p1) := by
  refine Ct.intro (own := RX1) (L := [(0, .ref this), (1, .ref p0), (2, .int p1)]) rfl (by decide) rfl (Nat.le_of_ble_eq_true rfl) fun κ hc hr hq hi hL => ?_
  have hn : ∀ i, i < 3 → i < κ.2.2.2.2.1 := fun i q => hL ▸ q
  unfold f1_fail
  refine v_obj ?_
  refine v_aload_n (i := 0) hc 0 rfl dX1_fail_0 rfl ?_
  refine v_iconst (x := (1 : Int32)) hc dX1_fail_1 zi_1 ?_
  refine v_bipush (x := (8 : Int32)) hc dX1_fail_2 zb_8 ?_
  refine v_aload_n (i := 1) hc 1 rfl dX1_fail_4 rfl ?_
  refine v_getVN hc kX6 3 (by decide) w_231 rfl dX1_fail_5 (gI rfl fun x5 => ?_)
  refine v_imul hc dX1_fail_8 ?_
  refine v_iadd hc dX1_fail_9 ?_
  refine v_iload_n (i := 2) hc 2 rfl dX1_fail_10 rfl ?_
  refine v_iadd hc dX1_fail_11 ?_
  refine v_put hc kX1 8 (by decide) w_267 rfl rfl dX1_fail_12 ⟨rfl, rfl⟩ fun h12 => ?_
  exact v_vret hc hq (Nat.le_of_ble_eq_true rfl) (Nat.le_of_ble_eq_true rfl) rfl dX1_fail_15
theorem s1_fail : YV yX1_fail RX1 cX1_fail 3 none 2 := ⟨w_700, w_699, w_12, w_114, rfl, by decide +kernel, by decide +kernel, by decide +kernel⟩
def f1_takeClause_135 (h : AH) (v0 : Nat) (s0 : Nat) (s1 : Int32) (s2 : Int32) : Option (AH) := (fS 1 6 h s0 (.int (s1 ||| s2))).bind fun h136 => (fS 1 3 h136 v0 (.int (0 : Int32))).bind fun h141 => (fS 1 10 h141 v0 (.int (0 : Int32))).bind fun h146 => (fS 1 11 h146 v0 (.int (0 : Int32))).bind fun h151 => (fS 1 12 h151 v0 (.int (0 : Int32))).bind fun h156 => (fI 1 4 h156 v0).bind fun x161 => (if x161 = (10 : Int32) then (fS 1 2 h156 v0 (.int (3 : Int32))).bind fun h174 => some h174 else (fS 1 2 h156 v0 (.int (1 : Int32))).bind fun h174 => some h174)
set_option maxRecDepth 100000 in
theorem vl1_takeClause_135 {κ : Kx} (hc : CX κ RX1 cX1_takeClause) (hr : RX κ ({ frames := 1, cells := 0, slots := 0, locals := 22 } : Room)) (hq : QX κ none 0 0) (hL : 3 = κ.2.2.2.2.1) (h : AH) (v0 : Nat) (s0 : Nat) (s1 : Int32) (s2 : Int32) : V κ (wV) 0 0 135 [(0, .ref v0)] [.int s2, .int s1, .ref s0] h (f1_takeClause_135 h v0 s0 s1 s2) := by
  have hn : ∀ i, i < 3 → i < κ.2.2.2.2.1 := fun i q => hL ▸ q
  unfold f1_takeClause_135
  refine v_ior hc dX1_takeClause_135 ?_
  refine v_put hc kX1 6 (by decide) w_265 rfl rfl dX1_takeClause_136 ⟨rfl, rfl⟩ fun h136 => ?_
  refine v_aload_n (i := 0) hc 0 rfl dX1_takeClause_139 rfl ?_
  refine v_iconst (x := (0 : Int32)) hc dX1_takeClause_140 zi_0 ?_
  refine v_put hc kX1 3 (by decide) w_262 rfl rfl dX1_takeClause_141 ⟨rfl, rfl⟩ fun h141 => ?_
  refine v_aload_n (i := 0) hc 0 rfl dX1_takeClause_144 rfl ?_
  refine v_iconst (x := (0 : Int32)) hc dX1_takeClause_145 zi_0 ?_
  refine v_put hc kX1 10 (by decide) w_269 rfl rfl dX1_takeClause_146 ⟨rfl, rfl⟩ fun h146 => ?_
  refine v_aload_n (i := 0) hc 0 rfl dX1_takeClause_149 rfl ?_
  refine v_iconst (x := (0 : Int32)) hc dX1_takeClause_150 zi_0 ?_
  refine v_put hc kX1 11 (by decide) w_270 rfl rfl dX1_takeClause_151 ⟨rfl, rfl⟩ fun h151 => ?_
  refine v_aload_n (i := 0) hc 0 rfl dX1_takeClause_154 rfl ?_
  refine v_iconst (x := (0 : Int32)) hc dX1_takeClause_155 zi_0 ?_
  refine v_put hc kX1 12 (by decide) w_271 rfl rfl dX1_takeClause_156 ⟨rfl, rfl⟩ fun h156 => ?_
  refine v_aload_n (i := 0) hc 0 rfl dX1_takeClause_159 rfl ?_
  refine v_aload_n (i := 0) hc 0 rfl dX1_takeClause_160 rfl ?_
  refine v_getV hc kX1 4 (by decide) w_263 rfl dX1_takeClause_161 (gI rfl fun x161 => ?_)
  refine v_bipush (x := (10 : Int32)) hc dX1_takeClause_164 zb_10 ?_
  refine v_icmp_ne hc 173 dX1_takeClause_166 rfl ?_ ?_
  · refine v_iconst (x := (1 : Int32)) hc dX1_takeClause_173 zi_1 ?_
    refine v_put hc kX1 2 (by decide) w_261 rfl rfl dX1_takeClause_174 ⟨rfl, rfl⟩ fun h174 => ?_
    exact v_vret hc hq (Nat.le_of_ble_eq_true rfl) (Nat.le_of_ble_eq_true rfl) rfl dX1_takeClause_177
  · refine v_iconst (x := (3 : Int32)) hc dX1_takeClause_169 zi_3 ?_
    refine v_goto hc 174 dX1_takeClause_170 rfl ?_
    refine v_put hc kX1 2 (by decide) w_261 rfl rfl dX1_takeClause_174 ⟨rfl, rfl⟩ fun h174 => ?_
    exact v_vret hc hq (Nat.le_of_ble_eq_true rfl) (Nat.le_of_ble_eq_true rfl) rfl dX1_takeClause_177
def f1_takeClause_106 (h : AH) (v0 : Nat) (v2 : Bool) : Option (AH) := (fI 1 5 h v0).bind fun x108 => (fS 1 5 h v0 (.int (x108 + (1 : Int32)))).bind fun h113 => (fI 1 6 h113 v0).bind fun x118 => (if v2 = true then (fI 1 4 h113 v0).bind fun x127 => f1_takeClause_135 h113 v0 v0 x118 ((1 : Int32) <<< (x127 &&& 31)) else f1_takeClause_135 h113 v0 v0 x118 (0 : Int32))
set_option maxRecDepth 100000 in
theorem vl1_takeClause_106 {κ : Kx} (hc : CX κ RX1 cX1_takeClause) (hr : RX κ ({ frames := 1, cells := 0, slots := 0, locals := 22 } : Room)) (hq : QX κ none 0 0) (hL : 3 = κ.2.2.2.2.1) (h : AH) (v0 : Nat) (v2 : Bool) : V κ (wV) 0 0 106 [(0, .ref v0), (2, .int (bI v2))] [] h (f1_takeClause_106 h v0 v2) := by
  have hn : ∀ i, i < 3 → i < κ.2.2.2.2.1 := fun i q => hL ▸ q
  unfold f1_takeClause_106
  refine v_aload_n (i := 0) hc 0 rfl dX1_takeClause_106 rfl ?_
  refine v_dup hc dX1_takeClause_107 rfl ?_
  refine v_getV hc kX1 5 (by decide) w_264 rfl dX1_takeClause_108 (gI rfl fun x108 => ?_)
  refine v_iconst (x := (1 : Int32)) hc dX1_takeClause_111 zi_1 ?_
  refine v_iadd hc dX1_takeClause_112 ?_
  refine v_put hc kX1 5 (by decide) w_264 rfl rfl dX1_takeClause_113 ⟨rfl, rfl⟩ fun h113 => ?_
  refine v_aload_n (i := 0) hc 0 rfl dX1_takeClause_116 rfl ?_
  refine v_dup hc dX1_takeClause_117 rfl ?_
  refine v_getV hc kX1 6 (by decide) w_265 rfl dX1_takeClause_118 (gI rfl fun x118 => ?_)
  refine v_iload_n (i := 2) hc 1 rfl dX1_takeClause_121 rfl ?_
  refine v_ifb_eq hc 134 dX1_takeClause_122 rfl ?_ ?_
  · refine v_iconst (x := (0 : Int32)) hc dX1_takeClause_134 zi_0 ?_
    refine v_sub (L' := [(0, .ref v0)]) [0] rfl ?_
    exact vl1_takeClause_135 hc hr hq hL h113 v0 v0 x118 (0 : Int32)
  · refine v_iconst (x := (1 : Int32)) hc dX1_takeClause_125 zi_1 ?_
    refine v_aload_n (i := 0) hc 0 rfl dX1_takeClause_126 rfl ?_
    refine v_getV hc kX1 4 (by decide) w_263 rfl dX1_takeClause_127 (gI rfl fun x127 => ?_)
    refine v_ishl hc dX1_takeClause_130 ?_
    refine v_goto hc 135 dX1_takeClause_131 rfl ?_
    refine v_sub (L' := [(0, .ref v0)]) [0] rfl ?_
    exact vl1_takeClause_135 hc hr hq hL h113 v0 v0 x118 ((1 : Int32) <<< (x127 &&& 31))
def f1_takeClause_49 (h : AH) (v0 : Nat) (v1 : Nat) (s0 : Bool) : Option (AH) := (fI 1 4 h v0).bind fun x52 => (f1_beginsClause h v0 x52).bind fun x55 => (if x55 = true then (fI 1 5 h v0).bind fun x71 => (if (12 : Int32) ≤ x71 then (f1_fail h v0 v1 (4 : Int32)).bind fun x100 => some x100 else (if s0 = true then (fI 1 6 h v0).bind fun x84 => (fI 1 4 h v0).bind fun x88 => (f8_hasBit h x84 x88).bind fun x91 => (if x91 = true then (f1_fail h v0 v1 (4 : Int32)).bind fun x100 => some x100 else f1_takeClause_106 h v0 s0) else f1_takeClause_106 h v0 s0)) else (f1_fail h v0 v1 (0 : Int32)).bind fun x64 => some x64)
set_option maxRecDepth 100000 in
theorem vl1_takeClause_49 {κ : Kx} (hc : CX κ RX1 cX1_takeClause) (hr : RX κ ({ frames := 1, cells := 0, slots := 0, locals := 22 } : Room)) (hq : QX κ none 0 0) (hL : 3 = κ.2.2.2.2.1) (h : AH) (v0 : Nat) (v1 : Nat) (s0 : Bool) : V κ (wV) 0 0 49 [(0, .ref v0), (1, .ref v1)] [.int (bI s0)] h (f1_takeClause_49 h v0 v1 s0) := by
  have hn : ∀ i, i < 3 → i < κ.2.2.2.2.1 := fun i q => hL ▸ q
  unfold f1_takeClause_49
  refine v_istore_n (i := 2) (L' := [(2, .int (bI s0)), (0, .ref v0), (1, .ref v1)]) hc dX1_takeClause_49 rfl (hn 2 (Nat.le_of_ble_eq_true rfl)) rfl ?_
  refine v_aload_n (i := 0) hc 1 rfl dX1_takeClause_50 rfl ?_
  refine v_aload_n (i := 0) hc 1 rfl dX1_takeClause_51 rfl ?_
  refine v_getV hc kX1 4 (by decide) w_263 rfl dX1_takeClause_52 (gI rfl fun x52 => ?_)
  refine v_cB hc (m_V' (As := [.int x52]) (b := v0) (rest := []) 1 hc hr (fun l D tys base => ct1_beginsClause l D tys base h v0 x52) (fun x hx => ob1_beginsClause hx) rfl s1_beginsClause w_693 rfl ⟨Nat.le_of_ble_eq_true rfl, Nat.le_of_ble_eq_true rfl⟩ ⟨Nat.le_of_ble_eq_true rfl, Nat.le_of_ble_eq_true rfl⟩ (Nat.le_of_ble_eq_true rfl) dX1_takeClause_55) fun x55 => ?_
  refine v_ifb_ne hc 70 dX1_takeClause_58 rfl ?_ ?_
  · refine v_aload_n (i := 0) hc 1 rfl dX1_takeClause_70 rfl ?_
    refine v_getV hc kX1 5 (by decide) w_264 rfl dX1_takeClause_71 (gI rfl fun x71 => ?_)
    refine v_bipush (x := (12 : Int32)) hc dX1_takeClause_74 zb_12 ?_
    refine v_icmp_ge hc 97 dX1_takeClause_76 rfl ?_ ?_
    · refine v_aload_n (i := 0) hc 1 rfl dX1_takeClause_97 rfl ?_
      refine v_aload_n (i := 1) hc 2 rfl dX1_takeClause_98 rfl ?_
      refine v_iconst (x := (4 : Int32)) hc dX1_takeClause_99 zi_4 ?_
      refine v_cV hc (m_V' (As := [.ref v1, .int (4 : Int32)]) (b := v0) (rest := []) 2 hc hr (fun l D tys base => ct1_fail l D tys base h v0 v1 (4 : Int32)) (fun x hx => ob1_fail hx) rfl s1_fail w_697 rfl ⟨Nat.le_of_ble_eq_true rfl, Nat.le_of_ble_eq_true rfl⟩ ⟨Nat.le_of_ble_eq_true rfl, Nat.le_of_ble_eq_true rfl⟩ (Nat.le_of_ble_eq_true rfl) dX1_takeClause_100) fun x100 => ?_
      refine v_goto hc 177 dX1_takeClause_103 rfl ?_
      exact v_vret hc hq (Nat.le_of_ble_eq_true rfl) (Nat.le_of_ble_eq_true rfl) rfl dX1_takeClause_177
    · refine v_iload_n (i := 2) hc 0 rfl dX1_takeClause_79 rfl ?_
      refine v_ifb_eq hc 106 dX1_takeClause_80 rfl ?_ ?_
      · refine v_sub (L' := [(0, .ref v0), (2, .int (bI s0))]) [1, 0] rfl ?_
        exact vl1_takeClause_106 hc hr hq hL h v0 s0
      · refine v_aload_n (i := 0) hc 1 rfl dX1_takeClause_83 rfl ?_
        refine v_getV hc kX1 6 (by decide) w_265 rfl dX1_takeClause_84 (gI rfl fun x84 => ?_)
        refine v_aload_n (i := 0) hc 1 rfl dX1_takeClause_87 rfl ?_
        refine v_getV hc kX1 4 (by decide) w_263 rfl dX1_takeClause_88 (gI rfl fun x88 => ?_)
        refine v_cB hc (m_SN' (As := [.int x84, .int x88]) (rest := []) 2 hc hr (fun l D tys base => ct8_hasBit l D tys base h x84 x88) s8_hasBit w_701 rfl ⟨Nat.le_of_ble_eq_true rfl, Nat.le_of_ble_eq_true rfl⟩ ⟨Nat.le_of_ble_eq_true rfl, Nat.le_of_ble_eq_true rfl⟩ (Nat.le_of_ble_eq_true rfl) dX1_takeClause_91) fun x91 => ?_
        refine v_ifb_eq hc 106 dX1_takeClause_94 rfl ?_ ?_
        · refine v_sub (L' := [(0, .ref v0), (2, .int (bI s0))]) [1, 0] rfl ?_
          exact vl1_takeClause_106 hc hr hq hL h v0 s0
        · refine v_aload_n (i := 0) hc 1 rfl dX1_takeClause_97 rfl ?_
          refine v_aload_n (i := 1) hc 2 rfl dX1_takeClause_98 rfl ?_
          refine v_iconst (x := (4 : Int32)) hc dX1_takeClause_99 zi_4 ?_
          refine v_cV hc (m_V' (As := [.ref v1, .int (4 : Int32)]) (b := v0) (rest := []) 2 hc hr (fun l D tys base => ct1_fail l D tys base h v0 v1 (4 : Int32)) (fun x hx => ob1_fail hx) rfl s1_fail w_697 rfl ⟨Nat.le_of_ble_eq_true rfl, Nat.le_of_ble_eq_true rfl⟩ ⟨Nat.le_of_ble_eq_true rfl, Nat.le_of_ble_eq_true rfl⟩ (Nat.le_of_ble_eq_true rfl) dX1_takeClause_100) fun x100 => ?_
          refine v_goto hc 177 dX1_takeClause_103 rfl ?_
          exact v_vret hc hq (Nat.le_of_ble_eq_true rfl) (Nat.le_of_ble_eq_true rfl) rfl dX1_takeClause_177
  · refine v_aload_n (i := 0) hc 1 rfl dX1_takeClause_61 rfl ?_
    refine v_aload_n (i := 1) hc 2 rfl dX1_takeClause_62 rfl ?_
    refine v_iconst (x := (0 : Int32)) hc dX1_takeClause_63 zi_0 ?_
    refine v_cV hc (m_V' (As := [.ref v1, .int (0 : Int32)]) (b := v0) (rest := []) 2 hc hr (fun l D tys base => ct1_fail l D tys base h v0 v1 (0 : Int32)) (fun x hx => ob1_fail hx) rfl s1_fail w_697 rfl ⟨Nat.le_of_ble_eq_true rfl, Nat.le_of_ble_eq_true rfl⟩ ⟨Nat.le_of_ble_eq_true rfl, Nat.le_of_ble_eq_true rfl⟩ (Nat.le_of_ble_eq_true rfl) dX1_takeClause_64) fun x64 => ?_
    refine v_goto hc 177 dX1_takeClause_67 rfl ?_
    exact v_vret hc hq (Nat.le_of_ble_eq_true rfl) (Nat.le_of_ble_eq_true rfl) rfl dX1_takeClause_177
def f1_takeClause (h : AH) (this : Nat) (p0 : Nat) : Option (AH) := (hObj 1 h this).bind fun _ => (fI 6 4 h p0).bind fun x2 => (fS 1 4 h this (.int x2)).bind fun h5 => (fI 1 4 h5 this).bind fun x9 => (if x9 = (11 : Int32) then f1_takeClause_49 h5 this p0 true else (fI 1 4 h5 this).bind fun x18 => (if x18 = (12 : Int32) then f1_takeClause_49 h5 this p0 true else (fI 1 4 h5 this).bind fun x27 => (if x27 = (13 : Int32) then f1_takeClause_49 h5 this p0 true else (fI 1 4 h5 this).bind fun x36 => (if x36 = (14 : Int32) then f1_takeClause_49 h5 this p0 true else f1_takeClause_49 h5 this p0 false))))
theorem ob1_takeClause {h : AH} {this : Nat} {p0 : Nat} {x : AH} (e : f1_takeClause h this p0 = some x) : ∃ fs, hObj 1 h this = some fs := by
  unfold f1_takeClause at e
  obtain ⟨fs, h1, -⟩ := bd e
  exact ⟨fs, h1⟩
set_option maxRecDepth 100000 in
theorem ct1_takeClause (l : Launch) (D : va_G) (tys : Tys) (base : Nat) (h : AH) (this : Nat) (p0 : Nat) : Ct l D tys base yX1_takeClause cX1_takeClause 3 none 1 22 0 0 [.ref this, .ref p0] h (wV) (f1_takeClause h this p0) := by
  refine Ct.intro (own := RX1) (L := [(0, .ref this), (1, .ref p0)]) rfl (by decide) rfl (Nat.le_of_ble_eq_true rfl) fun κ hc hr hq hi hL => ?_
  have hn : ∀ i, i < 3 → i < κ.2.2.2.2.1 := fun i q => hL ▸ q
  unfold f1_takeClause
  refine v_obj ?_
  refine v_aload_n (i := 0) hc 0 rfl dX1_takeClause_0 rfl ?_
  refine v_aload_n (i := 1) hc 1 rfl dX1_takeClause_1 rfl ?_
  refine v_getVN hc kX6 4 (by decide) w_233 rfl dX1_takeClause_2 (gI rfl fun x2 => ?_)
  refine v_put hc kX1 4 (by decide) w_263 rfl rfl dX1_takeClause_5 ⟨rfl, rfl⟩ fun h5 => ?_
  refine v_aload_n (i := 0) hc 0 rfl dX1_takeClause_8 rfl ?_
  refine v_getV hc kX1 4 (by decide) w_263 rfl dX1_takeClause_9 (gI rfl fun x9 => ?_)
  refine v_bipush (x := (11 : Int32)) hc dX1_takeClause_12 zb_11 ?_
  refine v_icmp_eq hc 44 dX1_takeClause_14 rfl ?_ ?_
  · refine v_iconst (x := (1 : Int32)) hc dX1_takeClause_44 zi_1 ?_
    refine v_goto hc 49 dX1_takeClause_45 rfl ?_
    refine v_sub (L' := [(0, .ref this), (1, .ref p0)]) [0, 1] rfl ?_
    exact vl1_takeClause_49 hc hr hq hL h5 this p0 true
  · refine v_aload_n (i := 0) hc 0 rfl dX1_takeClause_17 rfl ?_
    refine v_getV hc kX1 4 (by decide) w_263 rfl dX1_takeClause_18 (gI rfl fun x18 => ?_)
    refine v_bipush (x := (12 : Int32)) hc dX1_takeClause_21 zb_12 ?_
    refine v_icmp_eq hc 44 dX1_takeClause_23 rfl ?_ ?_
    · refine v_iconst (x := (1 : Int32)) hc dX1_takeClause_44 zi_1 ?_
      refine v_goto hc 49 dX1_takeClause_45 rfl ?_
      refine v_sub (L' := [(0, .ref this), (1, .ref p0)]) [0, 1] rfl ?_
      exact vl1_takeClause_49 hc hr hq hL h5 this p0 true
    · refine v_aload_n (i := 0) hc 0 rfl dX1_takeClause_26 rfl ?_
      refine v_getV hc kX1 4 (by decide) w_263 rfl dX1_takeClause_27 (gI rfl fun x27 => ?_)
      refine v_bipush (x := (13 : Int32)) hc dX1_takeClause_30 zb_13 ?_
      refine v_icmp_eq hc 44 dX1_takeClause_32 rfl ?_ ?_
      · refine v_iconst (x := (1 : Int32)) hc dX1_takeClause_44 zi_1 ?_
        refine v_goto hc 49 dX1_takeClause_45 rfl ?_
        refine v_sub (L' := [(0, .ref this), (1, .ref p0)]) [0, 1] rfl ?_
        exact vl1_takeClause_49 hc hr hq hL h5 this p0 true
      · refine v_aload_n (i := 0) hc 0 rfl dX1_takeClause_35 rfl ?_
        refine v_getV hc kX1 4 (by decide) w_263 rfl dX1_takeClause_36 (gI rfl fun x36 => ?_)
        refine v_bipush (x := (14 : Int32)) hc dX1_takeClause_39 zb_14 ?_
        refine v_icmp_ne hc 48 dX1_takeClause_41 rfl ?_ ?_
        · refine v_iconst (x := (0 : Int32)) hc dX1_takeClause_48 zi_0 ?_
          refine v_sub (L' := [(0, .ref this), (1, .ref p0)]) [0, 1] rfl ?_
          exact vl1_takeClause_49 hc hr hq hL h5 this p0 false
        · refine v_iconst (x := (1 : Int32)) hc dX1_takeClause_44 zi_1 ?_
          refine v_goto hc 49 dX1_takeClause_45 rfl ?_
          refine v_sub (L' := [(0, .ref this), (1, .ref p0)]) [0, 1] rfl ?_
          exact vl1_takeClause_49 hc hr hq hL h5 this p0 true
theorem s1_takeClause : YV yX1_takeClause RX1 cX1_takeClause 3 none 1 := ⟨w_692, w_691, w_10, w_114, rfl, by decide +kernel, by decide +kernel, by decide +kernel⟩
def f3_set_23 (h : AH) (v0 : Nat) (v1 : Int32) (v2 : Int32) : Option (Bool × AH) := (if v1 = (12 : Int32) then (f8_isFrom h v2 (1 : Int32) (999 : Int32)).bind fun x34 => (if x34 = true then (fS 3 1 h v0 (.int v2)).bind fun h42 => some (true, h42) else some (false, h)) else some (false, h))
set_option maxRecDepth 100000 in
theorem vl3_set_23 {κ : Kx} (hc : CX κ RX3 cX3_set) (hr : RX κ ({ frames := 1, cells := 0, slots := 0, locals := 22 } : Room)) (hq : QX κ (some .boolean) 0 0) (hL : 3 = κ.2.2.2.2.1) (h : AH) (v0 : Nat) (v1 : Int32) (v2 : Int32) : V κ (wB) 0 0 23 [(0, .ref v0), (1, .int v1), (2, .int v2)] [] h (f3_set_23 h v0 v1 v2) := by
  have hn : ∀ i, i < 3 → i < κ.2.2.2.2.1 := fun i q => hL ▸ q
  unfold f3_set_23
  refine v_iload_n (i := 1) hc 1 rfl dX3_set_23 rfl ?_
  refine v_bipush (x := (12 : Int32)) hc dX3_set_24 zb_12 ?_
  refine v_icmp_ne hc 47 dX3_set_26 rfl ?_ ?_
  · refine v_iconst (x := (0 : Int32)) hc dX3_set_47 zi_0 ?_
    exact v_iret (v := bI false) hc hq rfl (nar_b false) (Nat.le_of_ble_eq_true rfl) (Nat.le_of_ble_eq_true rfl) rfl dX3_set_48
  · refine v_iload_n (i := 2) hc 2 rfl dX3_set_29 rfl ?_
    refine v_iconst (x := (1 : Int32)) hc dX3_set_30 zi_1 ?_
    refine v_sipush (x := (999 : Int32)) hc dX3_set_31 zs_999 ?_
    refine v_cB hc (m_SN' (As := [.int v2, .int (1 : Int32), .int (999 : Int32)]) (rest := []) 3 hc hr (fun l D tys base => ct8_isFrom l D tys base h v2 (1 : Int32) (999 : Int32)) s8_isFrom w_714 rfl ⟨Nat.le_of_ble_eq_true rfl, Nat.le_of_ble_eq_true rfl⟩ ⟨Nat.le_of_ble_eq_true rfl, Nat.le_of_ble_eq_true rfl⟩ (Nat.le_of_ble_eq_true rfl) dX3_set_34) fun x34 => ?_
    refine v_ifb_eq hc 47 dX3_set_37 rfl ?_ ?_
    · refine v_iconst (x := (0 : Int32)) hc dX3_set_47 zi_0 ?_
      exact v_iret (v := bI false) hc hq rfl (nar_b false) (Nat.le_of_ble_eq_true rfl) (Nat.le_of_ble_eq_true rfl) rfl dX3_set_48
    · refine v_aload_n (i := 0) hc 0 rfl dX3_set_40 rfl ?_
      refine v_iload_n (i := 2) hc 2 rfl dX3_set_41 rfl ?_
      refine v_put hc kX3 1 (by decide) w_336 rfl rfl dX3_set_42 ⟨rfl, rfl⟩ fun h42 => ?_
      refine v_iconst (x := (1 : Int32)) hc dX3_set_45 zi_1 ?_
      exact v_iret (v := bI true) hc hq rfl (nar_b true) (Nat.le_of_ble_eq_true rfl) (Nat.le_of_ble_eq_true rfl) rfl dX3_set_46
def f3_set (h : AH) (this : Nat) (p0 : Int32) (p1 : Int32) : Option (Bool × AH) := (hObj 3 h this).bind fun _ => (if p0 = (11 : Int32) then (f8_isFrom h p1 (1 : Int32) (99 : Int32)).bind fun x10 => (if x10 = true then (fS 3 0 h this (.int p1)).bind fun h18 => some (true, h18) else f3_set_23 h this p0 p1) else f3_set_23 h this p0 p1)
theorem ob3_set {h : AH} {this : Nat} {p0 : Int32} {p1 : Int32} {x : Bool × AH} (e : f3_set h this p0 p1 = some x) : ∃ fs, hObj 3 h this = some fs := by
  unfold f3_set at e
  obtain ⟨fs, h1, -⟩ := bd e
  exact ⟨fs, h1⟩
set_option maxRecDepth 100000 in
theorem ct3_set (l : Launch) (D : va_G) (tys : Tys) (base : Nat) (h : AH) (this : Nat) (p0 : Int32) (p1 : Int32) : Ct l D tys base yX3_set cX3_set 3 (some .boolean) 1 22 0 0 [.ref this, .int p0, .int p1] h (wB) (f3_set h this p0 p1) := by
  refine Ct.intro (own := RX3) (L := [(0, .ref this), (1, .int p0), (2, .int p1)]) rfl (by decide) rfl (Nat.le_of_ble_eq_true rfl) fun κ hc hr hq hi hL => ?_
  have hn : ∀ i, i < 3 → i < κ.2.2.2.2.1 := fun i q => hL ▸ q
  unfold f3_set
  refine v_obj ?_
  refine v_iload_n (i := 1) hc 1 rfl dX3_set_0 rfl ?_
  refine v_bipush (x := (11 : Int32)) hc dX3_set_1 zb_11 ?_
  refine v_icmp_ne hc 23 dX3_set_3 rfl ?_ ?_
  · refine v_sub (L' := [(0, .ref this), (1, .int p0), (2, .int p1)]) [0, 1, 2] rfl ?_
    exact vl3_set_23 hc hr hq hL h this p0 p1
  · refine v_iload_n (i := 2) hc 2 rfl dX3_set_6 rfl ?_
    refine v_iconst (x := (1 : Int32)) hc dX3_set_7 zi_1 ?_
    refine v_bipush (x := (99 : Int32)) hc dX3_set_8 zb_99 ?_
    refine v_cB hc (m_SN' (As := [.int p1, .int (1 : Int32), .int (99 : Int32)]) (rest := []) 3 hc hr (fun l D tys base => ct8_isFrom l D tys base h p1 (1 : Int32) (99 : Int32)) s8_isFrom w_714 rfl ⟨Nat.le_of_ble_eq_true rfl, Nat.le_of_ble_eq_true rfl⟩ ⟨Nat.le_of_ble_eq_true rfl, Nat.le_of_ble_eq_true rfl⟩ (Nat.le_of_ble_eq_true rfl) dX3_set_10) fun x10 => ?_
    refine v_ifb_eq hc 23 dX3_set_13 rfl ?_ ?_
    · refine v_sub (L' := [(0, .ref this), (1, .int p0), (2, .int p1)]) [0, 1, 2] rfl ?_
      exact vl3_set_23 hc hr hq hL h this p0 p1
    · refine v_aload_n (i := 0) hc 0 rfl dX3_set_16 rfl ?_
      refine v_iload_n (i := 2) hc 2 rfl dX3_set_17 rfl ?_
      refine v_put hc kX3 0 (by decide) w_334 rfl rfl dX3_set_18 ⟨rfl, rfl⟩ fun h18 => ?_
      refine v_iconst (x := (1 : Int32)) hc dX3_set_21 zi_1 ?_
      exact v_iret (v := bI true) hc hq rfl (nar_b true) (Nat.le_of_ble_eq_true rfl) (Nat.le_of_ble_eq_true rfl) rfl dX3_set_22
theorem s3_set : YV yX3_set RX3 cX3_set 3 (some .boolean) 2 := ⟨w_713, w_711, w_712, w_116, rfl, by decide +kernel, by decide +kernel, by decide +kernel⟩
def f0_set_77 (h : AH) (v0 : Nat) (v1 : Int32) (v2 : Int32) : Option (Bool × AH) := (if v1 = (15 : Int32) then (f8_isFrom h v2 (0 : Int32) (5 : Int32)).bind fun x86 => (if x86 = true then (fI 0 4 h v0).bind fun x93 => (fR 0 3 h v0).bind fun x97 => (aN h x97).bind fun x100 => (if x100 ≤ x93 then some (false, h) else (fR 0 3 h v0).bind fun x105 => (fI 0 4 h v0).bind fun x109 => (sI 0 h x105 x109 v2).bind fun h113 => (fI 0 4 h113 v0).bind fun x116 => (fS 0 4 h113 v0 (.int (x116 + (1 : Int32)))).bind fun h121 => some (true, h121)) else some (false, h)) else some (false, h))
set_option maxRecDepth 100000 in
theorem vl0_set_77 {κ : Kx} (hc : CX κ RX0 cX0_set) (hr : RX κ ({ frames := 1, cells := 0, slots := 0, locals := 22 } : Room)) (hq : QX κ (some .boolean) 0 0) (hL : 3 = κ.2.2.2.2.1) (h : AH) (v0 : Nat) (v1 : Int32) (v2 : Int32) : V κ (wB) 0 0 77 [(0, .ref v0), (1, .int v1), (2, .int v2)] [] h (f0_set_77 h v0 v1 v2) := by
  have hn : ∀ i, i < 3 → i < κ.2.2.2.2.1 := fun i q => hL ▸ q
  unfold f0_set_77
  refine v_iload_n (i := 1) hc 1 rfl dX0_set_77 rfl ?_
  refine v_bipush (x := (15 : Int32)) hc dX0_set_78 zb_15 ?_
  refine v_icmp_ne hc 126 dX0_set_80 rfl ?_ ?_
  · refine v_iconst (x := (0 : Int32)) hc dX0_set_126 zi_0 ?_
    exact v_iret (v := bI false) hc hq rfl (nar_b false) (Nat.le_of_ble_eq_true rfl) (Nat.le_of_ble_eq_true rfl) rfl dX0_set_127
  · refine v_iload_n (i := 2) hc 2 rfl dX0_set_83 rfl ?_
    refine v_iconst (x := (0 : Int32)) hc dX0_set_84 zi_0 ?_
    refine v_iconst (x := (5 : Int32)) hc dX0_set_85 zi_5 ?_
    refine v_cB hc (m_SN' (As := [.int v2, .int (0 : Int32), .int (5 : Int32)]) (rest := []) 3 hc hr (fun l D tys base => ct8_isFrom l D tys base h v2 (0 : Int32) (5 : Int32)) s8_isFrom w_719 rfl ⟨Nat.le_of_ble_eq_true rfl, Nat.le_of_ble_eq_true rfl⟩ ⟨Nat.le_of_ble_eq_true rfl, Nat.le_of_ble_eq_true rfl⟩ (Nat.le_of_ble_eq_true rfl) dX0_set_86) fun x86 => ?_
    refine v_ifb_eq hc 126 dX0_set_89 rfl ?_ ?_
    · refine v_iconst (x := (0 : Int32)) hc dX0_set_126 zi_0 ?_
      exact v_iret (v := bI false) hc hq rfl (nar_b false) (Nat.le_of_ble_eq_true rfl) (Nat.le_of_ble_eq_true rfl) rfl dX0_set_127
    · refine v_aload_n (i := 0) hc 0 rfl dX0_set_92 rfl ?_
      refine v_getV hc kX0 4 (by decide) w_366 rfl dX0_set_93 (gI rfl fun x93 => ?_)
      refine v_aload_n (i := 0) hc 0 rfl dX0_set_96 rfl ?_
      refine v_getV hc kX0 3 (by decide) w_365 rfl dX0_set_97 (gR rfl fun x97 => ?_)
      refine v_alen hc dX0_set_100 fun x100 => ?_
      refine v_icmp_ge hc 126 dX0_set_101 rfl ?_ ?_
      · refine v_iconst (x := (0 : Int32)) hc dX0_set_126 zi_0 ?_
        exact v_iret (v := bI false) hc hq rfl (nar_b false) (Nat.le_of_ble_eq_true rfl) (Nat.le_of_ble_eq_true rfl) rfl dX0_set_127
      · refine v_aload_n (i := 0) hc 0 rfl dX0_set_104 rfl ?_
        refine v_getV hc kX0 3 (by decide) w_365 rfl dX0_set_105 (gR rfl fun x105 => ?_)
        refine v_aload_n (i := 0) hc 0 rfl dX0_set_108 rfl ?_
        refine v_getV hc kX0 4 (by decide) w_366 rfl dX0_set_109 (gI rfl fun x109 => ?_)
        refine v_iload_n (i := 2) hc 2 rfl dX0_set_112 rfl ?_
        refine v_iast hc dX0_set_113 fun h113 => ?_
        refine v_aload_n (i := 0) hc 0 rfl dX0_set_114 rfl ?_
        refine v_dup hc dX0_set_115 rfl ?_
        refine v_getV hc kX0 4 (by decide) w_366 rfl dX0_set_116 (gI rfl fun x116 => ?_)
        refine v_iconst (x := (1 : Int32)) hc dX0_set_119 zi_1 ?_
        refine v_iadd hc dX0_set_120 ?_
        refine v_put hc kX0 4 (by decide) w_366 rfl rfl dX0_set_121 ⟨rfl, rfl⟩ fun h121 => ?_
        refine v_iconst (x := (1 : Int32)) hc dX0_set_124 zi_1 ?_
        exact v_iret (v := bI true) hc hq rfl (nar_b true) (Nat.le_of_ble_eq_true rfl) (Nat.le_of_ble_eq_true rfl) rfl dX0_set_125
def f0_set_47 (h : AH) (v0 : Nat) (v1 : Int32) (v2 : Int32) : Option (Bool × AH) := (if v1 = (16 : Int32) then (f8_isFrom h v2 (0 : Int32) (9 : Int32)).bind fun x57 => (if x57 = true then (fI 0 2 h v0).bind fun x65 => (fS 0 2 h v0 (.int (x65 ||| ((1 : Int32) <<< (v2 &&& 31))))).bind fun h72 => some (true, h72) else f0_set_77 h v0 v1 v2) else f0_set_77 h v0 v1 v2)
set_option maxRecDepth 100000 in
theorem vl0_set_47 {κ : Kx} (hc : CX κ RX0 cX0_set) (hr : RX κ ({ frames := 1, cells := 0, slots := 0, locals := 22 } : Room)) (hq : QX κ (some .boolean) 0 0) (hL : 3 = κ.2.2.2.2.1) (h : AH) (v0 : Nat) (v1 : Int32) (v2 : Int32) : V κ (wB) 0 0 47 [(0, .ref v0), (1, .int v1), (2, .int v2)] [] h (f0_set_47 h v0 v1 v2) := by
  have hn : ∀ i, i < 3 → i < κ.2.2.2.2.1 := fun i q => hL ▸ q
  unfold f0_set_47
  refine v_iload_n (i := 1) hc 1 rfl dX0_set_47 rfl ?_
  refine v_bipush (x := (16 : Int32)) hc dX0_set_48 zb_16 ?_
  refine v_icmp_ne hc 77 dX0_set_50 rfl ?_ ?_
  · refine v_sub (L' := [(0, .ref v0), (1, .int v1), (2, .int v2)]) [0, 1, 2] rfl ?_
    exact vl0_set_77 hc hr hq hL h v0 v1 v2
  · refine v_iload_n (i := 2) hc 2 rfl dX0_set_53 rfl ?_
    refine v_iconst (x := (0 : Int32)) hc dX0_set_54 zi_0 ?_
    refine v_bipush (x := (9 : Int32)) hc dX0_set_55 zb_9 ?_
    refine v_cB hc (m_SN' (As := [.int v2, .int (0 : Int32), .int (9 : Int32)]) (rest := []) 3 hc hr (fun l D tys base => ct8_isFrom l D tys base h v2 (0 : Int32) (9 : Int32)) s8_isFrom w_719 rfl ⟨Nat.le_of_ble_eq_true rfl, Nat.le_of_ble_eq_true rfl⟩ ⟨Nat.le_of_ble_eq_true rfl, Nat.le_of_ble_eq_true rfl⟩ (Nat.le_of_ble_eq_true rfl) dX0_set_57) fun x57 => ?_
    refine v_ifb_eq hc 77 dX0_set_60 rfl ?_ ?_
    · refine v_sub (L' := [(0, .ref v0), (1, .int v1), (2, .int v2)]) [0, 1, 2] rfl ?_
      exact vl0_set_77 hc hr hq hL h v0 v1 v2
    · refine v_aload_n (i := 0) hc 0 rfl dX0_set_63 rfl ?_
      refine v_dup hc dX0_set_64 rfl ?_
      refine v_getV hc kX0 2 (by decide) w_363 rfl dX0_set_65 (gI rfl fun x65 => ?_)
      refine v_iconst (x := (1 : Int32)) hc dX0_set_68 zi_1 ?_
      refine v_iload_n (i := 2) hc 2 rfl dX0_set_69 rfl ?_
      refine v_ishl hc dX0_set_70 ?_
      refine v_ior hc dX0_set_71 ?_
      refine v_put hc kX0 2 (by decide) w_363 rfl rfl dX0_set_72 ⟨rfl, rfl⟩ fun h72 => ?_
      refine v_iconst (x := (1 : Int32)) hc dX0_set_75 zi_1 ?_
      exact v_iret (v := bI true) hc hq rfl (nar_b true) (Nat.le_of_ble_eq_true rfl) (Nat.le_of_ble_eq_true rfl) rfl dX0_set_76
def f0_set_23 (h : AH) (v0 : Nat) (v1 : Int32) (v2 : Int32) : Option (Bool × AH) := (if v1 = (14 : Int32) then (f8_isFrom h v2 (0 : Int32) (1000 : Int32)).bind fun x34 => (if x34 = true then (fS 0 1 h v0 (.int v2)).bind fun h42 => some (true, h42) else f0_set_47 h v0 v1 v2) else f0_set_47 h v0 v1 v2)
set_option maxRecDepth 100000 in
theorem vl0_set_23 {κ : Kx} (hc : CX κ RX0 cX0_set) (hr : RX κ ({ frames := 1, cells := 0, slots := 0, locals := 22 } : Room)) (hq : QX κ (some .boolean) 0 0) (hL : 3 = κ.2.2.2.2.1) (h : AH) (v0 : Nat) (v1 : Int32) (v2 : Int32) : V κ (wB) 0 0 23 [(0, .ref v0), (1, .int v1), (2, .int v2)] [] h (f0_set_23 h v0 v1 v2) := by
  have hn : ∀ i, i < 3 → i < κ.2.2.2.2.1 := fun i q => hL ▸ q
  unfold f0_set_23
  refine v_iload_n (i := 1) hc 1 rfl dX0_set_23 rfl ?_
  refine v_bipush (x := (14 : Int32)) hc dX0_set_24 zb_14 ?_
  refine v_icmp_ne hc 47 dX0_set_26 rfl ?_ ?_
  · refine v_sub (L' := [(0, .ref v0), (1, .int v1), (2, .int v2)]) [0, 1, 2] rfl ?_
    exact vl0_set_47 hc hr hq hL h v0 v1 v2
  · refine v_iload_n (i := 2) hc 2 rfl dX0_set_29 rfl ?_
    refine v_iconst (x := (0 : Int32)) hc dX0_set_30 zi_0 ?_
    refine v_sipush (x := (1000 : Int32)) hc dX0_set_31 zs_1000 ?_
    refine v_cB hc (m_SN' (As := [.int v2, .int (0 : Int32), .int (1000 : Int32)]) (rest := []) 3 hc hr (fun l D tys base => ct8_isFrom l D tys base h v2 (0 : Int32) (1000 : Int32)) s8_isFrom w_719 rfl ⟨Nat.le_of_ble_eq_true rfl, Nat.le_of_ble_eq_true rfl⟩ ⟨Nat.le_of_ble_eq_true rfl, Nat.le_of_ble_eq_true rfl⟩ (Nat.le_of_ble_eq_true rfl) dX0_set_34) fun x34 => ?_
    refine v_ifb_eq hc 47 dX0_set_37 rfl ?_ ?_
    · refine v_sub (L' := [(0, .ref v0), (1, .int v1), (2, .int v2)]) [0, 1, 2] rfl ?_
      exact vl0_set_47 hc hr hq hL h v0 v1 v2
    · refine v_aload_n (i := 0) hc 0 rfl dX0_set_40 rfl ?_
      refine v_iload_n (i := 2) hc 2 rfl dX0_set_41 rfl ?_
      refine v_put hc kX0 1 (by decide) w_362 rfl rfl dX0_set_42 ⟨rfl, rfl⟩ fun h42 => ?_
      refine v_iconst (x := (1 : Int32)) hc dX0_set_45 zi_1 ?_
      exact v_iret (v := bI true) hc hq rfl (nar_b true) (Nat.le_of_ble_eq_true rfl) (Nat.le_of_ble_eq_true rfl) rfl dX0_set_46
def f0_set (h : AH) (this : Nat) (p0 : Int32) (p1 : Int32) : Option (Bool × AH) := (hObj 0 h this).bind fun _ => (if p0 = (13 : Int32) then (f8_isFrom h p1 (1 : Int32) (99 : Int32)).bind fun x10 => (if x10 = true then (fS 0 0 h this (.int p1)).bind fun h18 => some (true, h18) else f0_set_23 h this p0 p1) else f0_set_23 h this p0 p1)
theorem ob0_set {h : AH} {this : Nat} {p0 : Int32} {p1 : Int32} {x : Bool × AH} (e : f0_set h this p0 p1 = some x) : ∃ fs, hObj 0 h this = some fs := by
  unfold f0_set at e
  obtain ⟨fs, h1, -⟩ := bd e
  exact ⟨fs, h1⟩
set_option maxRecDepth 100000 in
theorem ct0_set (l : Launch) (D : va_G) (tys : Tys) (base : Nat) (h : AH) (this : Nat) (p0 : Int32) (p1 : Int32) : Ct l D tys base yX0_set cX0_set 3 (some .boolean) 1 22 0 0 [.ref this, .int p0, .int p1] h (wB) (f0_set h this p0 p1) := by
  refine Ct.intro (own := RX0) (L := [(0, .ref this), (1, .int p0), (2, .int p1)]) rfl (by decide) rfl (Nat.le_of_ble_eq_true rfl) fun κ hc hr hq hi hL => ?_
  have hn : ∀ i, i < 3 → i < κ.2.2.2.2.1 := fun i q => hL ▸ q
  unfold f0_set
  refine v_obj ?_
  refine v_iload_n (i := 1) hc 1 rfl dX0_set_0 rfl ?_
  refine v_bipush (x := (13 : Int32)) hc dX0_set_1 zb_13 ?_
  refine v_icmp_ne hc 23 dX0_set_3 rfl ?_ ?_
  · refine v_sub (L' := [(0, .ref this), (1, .int p0), (2, .int p1)]) [0, 1, 2] rfl ?_
    exact vl0_set_23 hc hr hq hL h this p0 p1
  · refine v_iload_n (i := 2) hc 2 rfl dX0_set_6 rfl ?_
    refine v_iconst (x := (1 : Int32)) hc dX0_set_7 zi_1 ?_
    refine v_bipush (x := (99 : Int32)) hc dX0_set_8 zb_99 ?_
    refine v_cB hc (m_SN' (As := [.int p1, .int (1 : Int32), .int (99 : Int32)]) (rest := []) 3 hc hr (fun l D tys base => ct8_isFrom l D tys base h p1 (1 : Int32) (99 : Int32)) s8_isFrom w_719 rfl ⟨Nat.le_of_ble_eq_true rfl, Nat.le_of_ble_eq_true rfl⟩ ⟨Nat.le_of_ble_eq_true rfl, Nat.le_of_ble_eq_true rfl⟩ (Nat.le_of_ble_eq_true rfl) dX0_set_10) fun x10 => ?_
    refine v_ifb_eq hc 23 dX0_set_13 rfl ?_ ?_
    · refine v_sub (L' := [(0, .ref this), (1, .int p0), (2, .int p1)]) [0, 1, 2] rfl ?_
      exact vl0_set_23 hc hr hq hL h this p0 p1
    · refine v_aload_n (i := 0) hc 0 rfl dX0_set_16 rfl ?_
      refine v_iload_n (i := 2) hc 2 rfl dX0_set_17 rfl ?_
      refine v_put hc kX0 0 (by decide) w_360 rfl rfl dX0_set_18 ⟨rfl, rfl⟩ fun h18 => ?_
      refine v_iconst (x := (1 : Int32)) hc dX0_set_21 zi_1 ?_
      exact v_iret (v := bI true) hc hq rfl (nar_b true) (Nat.le_of_ble_eq_true rfl) (Nat.le_of_ble_eq_true rfl) rfl dX0_set_22
theorem s0_set : YV yX0_set RX0 cX0_set 3 (some .boolean) 2 := ⟨w_718, w_716, w_717, w_117, rfl, by decide +kernel, by decide +kernel, by decide +kernel⟩
def f1_set (h : AH) (this : Nat) (p0 : Int32) : Option (Bool × AH) := (hObj 1 h this).bind fun _ => (fQ 1 0 h this).bind fun x1 => (oM x1 ((fQ 1 1 h this).bind fun x21 => (oM x21 (some (false, h)) fun a24 => (fQ 1 1 h this).bind fun x28 => (fI 1 4 h this).bind fun x32 => (x28).bind fun b36 => (f0_set h b36 x32 p0).bind fun x36 => (if x36.1 = true then some (true, x36.2) else some (false, x36.2)))) fun a4 => (fQ 1 0 h this).bind fun x8 => (fI 1 4 h this).bind fun x12 => (x8).bind fun b16 => (f3_set h b16 x12 p0).bind fun x16 => some (x16.1, x16.2))
theorem ob1_set {h : AH} {this : Nat} {p0 : Int32} {x : Bool × AH} (e : f1_set h this p0 = some x) : ∃ fs, hObj 1 h this = some fs := by
  unfold f1_set at e
  obtain ⟨fs, h1, -⟩ := bd e
  exact ⟨fs, h1⟩
set_option maxRecDepth 100000 in
theorem ct1_set (l : Launch) (D : va_G) (tys : Tys) (base : Nat) (h : AH) (this : Nat) (p0 : Int32) : Ct l D tys base yX1_set cX1_set 2 (some .boolean) 2 44 0 0 [.ref this, .int p0] h (wB) (f1_set h this p0) := by
  refine Ct.intro (own := RX1) (L := [(0, .ref this), (1, .int p0)]) rfl (by decide) rfl (Nat.le_of_ble_eq_true rfl) fun κ hc hr hq hi hL => ?_
  have hn : ∀ i, i < 2 → i < κ.2.2.2.2.1 := fun i q => hL ▸ q
  unfold f1_set
  refine v_obj ?_
  refine v_aload_n (i := 0) hc 0 rfl dX1_set_0 rfl ?_
  refine v_getV hc kX1 0 (by decide) w_259 rfl dX1_set_1 (gQ rfl fun x1 => ?_)
  refine v_ifnull hc 20 dX1_set_4 rfl ?_ ?_
  · intro hx4
    subst hx4
    refine v_aload_n (i := 0) hc 0 rfl dX1_set_20 rfl ?_
    refine v_getV hc kX1 1 (by decide) w_260 rfl dX1_set_21 (gQ rfl fun x21 => ?_)
    refine v_ifnull hc 46 dX1_set_24 rfl ?_ ?_
    · intro hx24
      subst hx24
      refine v_iconst (x := (0 : Int32)) hc dX1_set_46 zi_0 ?_
      exact v_iret (v := bI false) hc hq rfl (nar_b false) (Nat.le_of_ble_eq_true rfl) (Nat.le_of_ble_eq_true rfl) rfl dX1_set_47
    · intro a24 hx24
      subst hx24
      refine v_aload_n (i := 0) hc 0 rfl dX1_set_27 rfl ?_
      refine v_getV hc kX1 1 (by decide) w_260 rfl dX1_set_28 (gQ rfl fun x28 => ?_)
      refine v_aload_n (i := 0) hc 0 rfl dX1_set_31 rfl ?_
      refine v_getV hc kX1 4 (by decide) w_263 rfl dX1_set_32 (gI rfl fun x32 => ?_)
      refine v_iload_n (i := 1) hc 1 rfl dX1_set_35 rfl ?_
      refine v_nn fun b36 hb36 => ?_
      subst hb36
      refine v_cwB hc (m_V' (As := [.int x32, .int p0]) (b := b36) (rest := []) 2 hc hr (fun l D tys base => ct0_set l D tys base h b36 x32 p0) (fun x hx => ob0_set hx) rfl s0_set w_715 rfl ⟨Nat.le_of_ble_eq_true rfl, Nat.le_of_ble_eq_true rfl⟩ ⟨Nat.le_of_ble_eq_true rfl, Nat.le_of_ble_eq_true rfl⟩ (Nat.le_of_ble_eq_true rfl) dX1_set_36) fun x36 => ?_
      refine v_ifb_eq hc 46 dX1_set_39 rfl ?_ ?_
      · refine v_iconst (x := (0 : Int32)) hc dX1_set_46 zi_0 ?_
        exact v_iret (v := bI false) hc hq rfl (nar_b false) (Nat.le_of_ble_eq_true rfl) (Nat.le_of_ble_eq_true rfl) rfl dX1_set_47
      · refine v_iconst (x := (1 : Int32)) hc dX1_set_42 zi_1 ?_
        refine v_goto hc 47 dX1_set_43 rfl ?_
        exact v_iret (v := bI true) hc hq rfl (nar_b true) (Nat.le_of_ble_eq_true rfl) (Nat.le_of_ble_eq_true rfl) rfl dX1_set_47
  · intro a4 hx4
    subst hx4
    refine v_aload_n (i := 0) hc 0 rfl dX1_set_7 rfl ?_
    refine v_getV hc kX1 0 (by decide) w_259 rfl dX1_set_8 (gQ rfl fun x8 => ?_)
    refine v_aload_n (i := 0) hc 0 rfl dX1_set_11 rfl ?_
    refine v_getV hc kX1 4 (by decide) w_263 rfl dX1_set_12 (gI rfl fun x12 => ?_)
    refine v_iload_n (i := 1) hc 1 rfl dX1_set_15 rfl ?_
    refine v_nn fun b16 hb16 => ?_
    subst hb16
    refine v_cwB hc (m_V' (As := [.int x12, .int p0]) (b := b16) (rest := []) 2 hc hr (fun l D tys base => ct3_set l D tys base h b16 x12 p0) (fun x hx => ob3_set hx) rfl s3_set w_710 rfl ⟨Nat.le_of_ble_eq_true rfl, Nat.le_of_ble_eq_true rfl⟩ ⟨Nat.le_of_ble_eq_true rfl, Nat.le_of_ble_eq_true rfl⟩ (Nat.le_of_ble_eq_true rfl) dX1_set_16) fun x16 => ?_
    exact v_iret (v := bI x16.1) hc hq rfl (nar_b x16.1) (Nat.le_of_ble_eq_true rfl) (Nat.le_of_ble_eq_true rfl) rfl dX1_set_19
theorem s1_set : YV yX1_set RX1 cX1_set 2 (some .boolean) 1 := ⟨w_709, w_708, w_14, w_114, rfl, by decide +kernel, by decide +kernel, by decide +kernel⟩
def f1_takeSetting (h : AH) (this : Nat) (p0 : Nat) : Option (AH) := (hObj 1 h this).bind fun _ => (fI 6 4 h p0).bind fun x1 => (if x1 = (21 : Int32) then (fI 6 6 h p0).bind fun x19 => (if (5 : Int32) < x19 then (f1_fail h this p0 (1 : Int32)).bind fun x40 => some x40 else (fI 6 5 h p0).bind fun x28 => (f1_set h this x28).bind fun x31 => (if x31.1 = true then (fS 1 2 x31.2 this (.int (2 : Int32))).bind fun h48 => some h48 else (f1_fail x31.2 this p0 (1 : Int32)).bind fun x40 => some x40)) else (f1_fail h this p0 (0 : Int32)).bind fun x12 => some x12)
theorem ob1_takeSetting {h : AH} {this : Nat} {p0 : Nat} {x : AH} (e : f1_takeSetting h this p0 = some x) : ∃ fs, hObj 1 h this = some fs := by
  unfold f1_takeSetting at e
  obtain ⟨fs, h1, -⟩ := bd e
  exact ⟨fs, h1⟩
set_option maxRecDepth 100000 in
theorem ct1_takeSetting (l : Launch) (D : va_G) (tys : Tys) (base : Nat) (h : AH) (this : Nat) (p0 : Nat) : Ct l D tys base yX1_takeSetting cX1_takeSetting 2 none 3 65 0 0 [.ref this, .ref p0] h (wV) (f1_takeSetting h this p0) := by
  refine Ct.intro (own := RX1) (L := [(0, .ref this), (1, .ref p0)]) rfl (by decide) rfl (Nat.le_of_ble_eq_true rfl) fun κ hc hr hq hi hL => ?_
  have hn : ∀ i, i < 2 → i < κ.2.2.2.2.1 := fun i q => hL ▸ q
  unfold f1_takeSetting
  refine v_obj ?_
  refine v_aload_n (i := 1) hc 1 rfl dX1_takeSetting_0 rfl ?_
  refine v_getVN hc kX6 4 (by decide) w_233 rfl dX1_takeSetting_1 (gI rfl fun x1 => ?_)
  refine v_bipush (x := (21 : Int32)) hc dX1_takeSetting_4 zb_21 ?_
  refine v_icmp_eq hc 18 dX1_takeSetting_6 rfl ?_ ?_
  · refine v_aload_n (i := 1) hc 1 rfl dX1_takeSetting_18 rfl ?_
    refine v_getVN hc kX6 6 (by decide) w_237 rfl dX1_takeSetting_19 (gI rfl fun x19 => ?_)
    refine v_iconst (x := (5 : Int32)) hc dX1_takeSetting_22 zi_5 ?_
    refine v_icmp_gt hc 37 dX1_takeSetting_23 rfl ?_ ?_
    · refine v_aload_n (i := 0) hc 0 rfl dX1_takeSetting_37 rfl ?_
      refine v_aload_n (i := 1) hc 1 rfl dX1_takeSetting_38 rfl ?_
      refine v_iconst (x := (1 : Int32)) hc dX1_takeSetting_39 zi_1 ?_
      refine v_cV hc (m_V' (As := [.ref p0, .int (1 : Int32)]) (b := this) (rest := []) 2 hc hr (fun l D tys base => ct1_fail l D tys base h this p0 (1 : Int32)) (fun x hx => ob1_fail hx) rfl s1_fail w_697 rfl ⟨Nat.le_of_ble_eq_true rfl, Nat.le_of_ble_eq_true rfl⟩ ⟨Nat.le_of_ble_eq_true rfl, Nat.le_of_ble_eq_true rfl⟩ (Nat.le_of_ble_eq_true rfl) dX1_takeSetting_40) fun x40 => ?_
      refine v_goto hc 51 dX1_takeSetting_43 rfl ?_
      exact v_vret hc hq (Nat.le_of_ble_eq_true rfl) (Nat.le_of_ble_eq_true rfl) rfl dX1_takeSetting_51
    · refine v_aload_n (i := 0) hc 0 rfl dX1_takeSetting_26 rfl ?_
      refine v_aload_n (i := 1) hc 1 rfl dX1_takeSetting_27 rfl ?_
      refine v_getVN hc kX6 5 (by decide) w_235 rfl dX1_takeSetting_28 (gI rfl fun x28 => ?_)
      refine v_cwB hc (m_V' (As := [.int x28]) (b := this) (rest := []) 1 hc hr (fun l D tys base => ct1_set l D tys base h this x28) (fun x hx => ob1_set hx) rfl s1_set w_706 rfl ⟨Nat.le_of_ble_eq_true rfl, Nat.le_of_ble_eq_true rfl⟩ ⟨Nat.le_of_ble_eq_true rfl, Nat.le_of_ble_eq_true rfl⟩ (Nat.le_of_ble_eq_true rfl) dX1_takeSetting_31) fun x31 => ?_
      refine v_ifb_ne hc 46 dX1_takeSetting_34 rfl ?_ ?_
      · refine v_aload_n (i := 0) hc 0 rfl dX1_takeSetting_46 rfl ?_
        refine v_iconst (x := (2 : Int32)) hc dX1_takeSetting_47 zi_2 ?_
        refine v_put hc kX1 2 (by decide) w_261 rfl rfl dX1_takeSetting_48 ⟨rfl, rfl⟩ fun h48 => ?_
        exact v_vret hc hq (Nat.le_of_ble_eq_true rfl) (Nat.le_of_ble_eq_true rfl) rfl dX1_takeSetting_51
      · refine v_aload_n (i := 0) hc 0 rfl dX1_takeSetting_37 rfl ?_
        refine v_aload_n (i := 1) hc 1 rfl dX1_takeSetting_38 rfl ?_
        refine v_iconst (x := (1 : Int32)) hc dX1_takeSetting_39 zi_1 ?_
        refine v_cV hc (m_V' (As := [.ref p0, .int (1 : Int32)]) (b := this) (rest := []) 2 hc hr (fun l D tys base => ct1_fail l D tys base x31.2 this p0 (1 : Int32)) (fun x hx => ob1_fail hx) rfl s1_fail w_697 rfl ⟨Nat.le_of_ble_eq_true rfl, Nat.le_of_ble_eq_true rfl⟩ ⟨Nat.le_of_ble_eq_true rfl, Nat.le_of_ble_eq_true rfl⟩ (Nat.le_of_ble_eq_true rfl) dX1_takeSetting_40) fun x40 => ?_
        refine v_goto hc 51 dX1_takeSetting_43 rfl ?_
        exact v_vret hc hq (Nat.le_of_ble_eq_true rfl) (Nat.le_of_ble_eq_true rfl) rfl dX1_takeSetting_51
  · refine v_aload_n (i := 0) hc 0 rfl dX1_takeSetting_9 rfl ?_
    refine v_aload_n (i := 1) hc 1 rfl dX1_takeSetting_10 rfl ?_
    refine v_iconst (x := (0 : Int32)) hc dX1_takeSetting_11 zi_0 ?_
    refine v_cV hc (m_V' (As := [.ref p0, .int (0 : Int32)]) (b := this) (rest := []) 2 hc hr (fun l D tys base => ct1_fail l D tys base h this p0 (0 : Int32)) (fun x hx => ob1_fail hx) rfl s1_fail w_697 rfl ⟨Nat.le_of_ble_eq_true rfl, Nat.le_of_ble_eq_true rfl⟩ ⟨Nat.le_of_ble_eq_true rfl, Nat.le_of_ble_eq_true rfl⟩ (Nat.le_of_ble_eq_true rfl) dX1_takeSetting_12) fun x12 => ?_
    refine v_goto hc 51 dX1_takeSetting_15 rfl ?_
    exact v_vret hc hq (Nat.le_of_ble_eq_true rfl) (Nat.le_of_ble_eq_true rfl) rfl dX1_takeSetting_51
theorem s1_takeSetting : YV yX1_takeSetting RX1 cX1_takeSetting 2 none 1 := ⟨w_705, w_704, w_13, w_114, rfl, by decide +kernel, by decide +kernel, by decide +kernel⟩
def f3_codeOfNumber (h : AH) (p0 : Int32) : Option (Int32) := some ((-1 : Int32) - p0)
set_option maxRecDepth 100000 in
theorem ct3_codeOfNumber (l : Launch) (D : va_G) (tys : Tys) (base : Nat) (h : AH) (p0 : Int32) : Ct l D tys base yX3_codeOfNumber cX3_codeOfNumber 1 (some .int) 0 0 0 0 [.int p0] h (rI h) (f3_codeOfNumber h p0) := by
  refine Ct.intro (own := RX3) (L := [(0, .int p0)]) rfl (by decide) rfl (Nat.le_of_ble_eq_true rfl) fun κ hc hr hq hi hL => ?_
  have hn : ∀ i, i < 1 → i < κ.2.2.2.2.1 := fun i q => hL ▸ q
  unfold f3_codeOfNumber
  refine v_iconst (x := (-1 : Int32)) hc dX3_codeOfNumber_0 zi_m1 ?_
  refine v_iload_n (i := 0) hc 0 rfl dX3_codeOfNumber_1 rfl ?_
  refine v_isub hc dX3_codeOfNumber_2 ?_
  exact v_iret hc hq rfl rfl (Nat.le_of_ble_eq_true rfl) (Nat.le_of_ble_eq_true rfl) rfl dX3_codeOfNumber_3
theorem s3_codeOfNumber : YS yX3_codeOfNumber cX3_codeOfNumber 1 (some .int) 1 := ⟨w_727, w_726, w_116, by decide +kernel, by decide +kernel, by decide +kernel⟩
def f3_addCode (h : AH) (this : Nat) (p0 : Int32) : Option (AH) := (hObj 3 h this).bind fun _ => (fI 3 3 h this).bind fun x1 => (if x1 < 0 then some h else (fI 3 3 h this).bind fun x8 => (fR 3 2 h this).bind fun x12 => (aN h x12).bind fun x15 => (if x15 ≤ x8 then some h else (fR 3 2 h this).bind fun x20 => (fI 3 3 h this).bind fun x24 => (sI 0 h x20 x24 p0).bind fun h28 => (fI 3 3 h28 this).bind fun x31 => (fS 3 3 h28 this (.int (x31 + (1 : Int32)))).bind fun h36 => some h36))
theorem ob3_addCode {h : AH} {this : Nat} {p0 : Int32} {x : AH} (e : f3_addCode h this p0 = some x) : ∃ fs, hObj 3 h this = some fs := by
  unfold f3_addCode at e
  obtain ⟨fs, h1, -⟩ := bd e
  exact ⟨fs, h1⟩
set_option maxRecDepth 100000 in
theorem ct3_addCode (l : Launch) (D : va_G) (tys : Tys) (base : Nat) (h : AH) (this : Nat) (p0 : Int32) : Ct l D tys base yX3_addCode cX3_addCode 2 none 0 0 0 0 [.ref this, .int p0] h (wV) (f3_addCode h this p0) := by
  refine Ct.intro (own := RX3) (L := [(0, .ref this), (1, .int p0)]) rfl (by decide) rfl (Nat.le_of_ble_eq_true rfl) fun κ hc hr hq hi hL => ?_
  have hn : ∀ i, i < 2 → i < κ.2.2.2.2.1 := fun i q => hL ▸ q
  unfold f3_addCode
  refine v_obj ?_
  refine v_aload_n (i := 0) hc 0 rfl dX3_addCode_0 rfl ?_
  refine v_getV hc kX3 3 (by decide) w_339 rfl dX3_addCode_1 (gI rfl fun x1 => ?_)
  refine v_if_lt hc 39 dX3_addCode_4 rfl ?_ ?_
  · exact v_vret hc hq (Nat.le_of_ble_eq_true rfl) (Nat.le_of_ble_eq_true rfl) rfl dX3_addCode_39
  · refine v_aload_n (i := 0) hc 0 rfl dX3_addCode_7 rfl ?_
    refine v_getV hc kX3 3 (by decide) w_339 rfl dX3_addCode_8 (gI rfl fun x8 => ?_)
    refine v_aload_n (i := 0) hc 0 rfl dX3_addCode_11 rfl ?_
    refine v_getV hc kX3 2 (by decide) w_338 rfl dX3_addCode_12 (gR rfl fun x12 => ?_)
    refine v_alen hc dX3_addCode_15 fun x15 => ?_
    refine v_icmp_ge hc 39 dX3_addCode_16 rfl ?_ ?_
    · exact v_vret hc hq (Nat.le_of_ble_eq_true rfl) (Nat.le_of_ble_eq_true rfl) rfl dX3_addCode_39
    · refine v_aload_n (i := 0) hc 0 rfl dX3_addCode_19 rfl ?_
      refine v_getV hc kX3 2 (by decide) w_338 rfl dX3_addCode_20 (gR rfl fun x20 => ?_)
      refine v_aload_n (i := 0) hc 0 rfl dX3_addCode_23 rfl ?_
      refine v_getV hc kX3 3 (by decide) w_339 rfl dX3_addCode_24 (gI rfl fun x24 => ?_)
      refine v_iload_n (i := 1) hc 1 rfl dX3_addCode_27 rfl ?_
      refine v_iast hc dX3_addCode_28 fun h28 => ?_
      refine v_aload_n (i := 0) hc 0 rfl dX3_addCode_29 rfl ?_
      refine v_dup hc dX3_addCode_30 rfl ?_
      refine v_getV hc kX3 3 (by decide) w_339 rfl dX3_addCode_31 (gI rfl fun x31 => ?_)
      refine v_iconst (x := (1 : Int32)) hc dX3_addCode_34 zi_1 ?_
      refine v_iadd hc dX3_addCode_35 ?_
      refine v_put hc kX3 3 (by decide) w_339 rfl rfl dX3_addCode_36 ⟨rfl, rfl⟩ fun h36 => ?_
      exact v_vret hc hq (Nat.le_of_ble_eq_true rfl) (Nat.le_of_ble_eq_true rfl) rfl dX3_addCode_39
theorem s3_addCode : YV yX3_addCode RX3 cX3_addCode 2 none 1 := ⟨w_735, w_733, w_734, w_116, rfl, by decide +kernel, by decide +kernel, by decide +kernel⟩
def f1_emit (h : AH) (this : Nat) (p0 : Int32) : Option (AH) := (hObj 1 h this).bind fun _ => (fQ 1 0 h this).bind fun x1 => (oM x1 (some h) fun a4 => (fQ 1 0 h this).bind fun x8 => (x8).bind fun b12 => (f3_addCode h b12 p0).bind fun x12 => some x12)
theorem ob1_emit {h : AH} {this : Nat} {p0 : Int32} {x : AH} (e : f1_emit h this p0 = some x) : ∃ fs, hObj 1 h this = some fs := by
  unfold f1_emit at e
  obtain ⟨fs, h1, -⟩ := bd e
  exact ⟨fs, h1⟩
set_option maxRecDepth 100000 in
theorem ct1_emit (l : Launch) (D : va_G) (tys : Tys) (base : Nat) (h : AH) (this : Nat) (p0 : Int32) : Ct l D tys base yX1_emit cX1_emit 2 none 1 21 0 0 [.ref this, .int p0] h (wV) (f1_emit h this p0) := by
  refine Ct.intro (own := RX1) (L := [(0, .ref this), (1, .int p0)]) rfl (by decide) rfl (Nat.le_of_ble_eq_true rfl) fun κ hc hr hq hi hL => ?_
  have hn : ∀ i, i < 2 → i < κ.2.2.2.2.1 := fun i q => hL ▸ q
  unfold f1_emit
  refine v_obj ?_
  refine v_aload_n (i := 0) hc 0 rfl dX1_emit_0 rfl ?_
  refine v_getV hc kX1 0 (by decide) w_259 rfl dX1_emit_1 (gQ rfl fun x1 => ?_)
  refine v_ifnull hc 15 dX1_emit_4 rfl ?_ ?_
  · intro hx4
    subst hx4
    exact v_vret hc hq (Nat.le_of_ble_eq_true rfl) (Nat.le_of_ble_eq_true rfl) rfl dX1_emit_15
  · intro a4 hx4
    subst hx4
    refine v_aload_n (i := 0) hc 0 rfl dX1_emit_7 rfl ?_
    refine v_getV hc kX1 0 (by decide) w_259 rfl dX1_emit_8 (gQ rfl fun x8 => ?_)
    refine v_iload_n (i := 1) hc 1 rfl dX1_emit_11 rfl ?_
    refine v_nn fun b12 hb12 => ?_
    subst hb12
    refine v_cV hc (m_V' (As := [.int p0]) (b := b12) (rest := []) 1 hc hr (fun l D tys base => ct3_addCode l D tys base h b12 p0) (fun x hx => ob3_addCode hx) rfl s3_addCode w_732 rfl ⟨Nat.le_of_ble_eq_true rfl, Nat.le_of_ble_eq_true rfl⟩ ⟨Nat.le_of_ble_eq_true rfl, Nat.le_of_ble_eq_true rfl⟩ (Nat.le_of_ble_eq_true rfl) dX1_emit_12) fun x12 => ?_
    exact v_vret hc hq (Nat.le_of_ble_eq_true rfl) (Nat.le_of_ble_eq_true rfl) rfl dX1_emit_15
theorem s1_emit : YV yX1_emit RX1 cX1_emit 2 none 1 := ⟨w_731, w_730, w_16, w_114, rfl, by decide +kernel, by decide +kernel, by decide +kernel⟩
def f1_takeValue_62 (h : AH) (v0 : Nat) (v1 : Nat) (v2 : Bool) : Option (AH) := (fI 1 7 h v0).bind fun x63 => (if x63 < (60 : Int32) then (fI 1 7 h v0).bind fun x82 => (fS 1 7 h v0 (.int (x82 + (1 : Int32)))).bind fun h87 => (if v2 = true then (fI 6 5 h87 v1).bind fun x96 => (f3_codeOfNumber h87 x96).bind fun x99 => (f1_emit h87 v0 x99).bind fun x109 => (fS 1 2 x109 v0 (.int (5 : Int32))).bind fun h114 => some h114 else (fI 6 4 h87 v1).bind fun x106 => (f1_emit h87 v0 x106).bind fun x109 => (fS 1 2 x109 v0 (.int (5 : Int32))).bind fun h114 => some h114) else (f1_fail h v0 v1 (3 : Int32)).bind fun x74 => some x74)
set_option maxRecDepth 100000 in
theorem vl1_takeValue_62 {κ : Kx} (hc : CX κ RX1 cX1_takeValue) (hr : RX κ ({ frames := 2, cells := 0, slots := 0, locals := 42 } : Room)) (hq : QX κ none 0 0) (hL : 3 = κ.2.2.2.2.1) (h : AH) (v0 : Nat) (v1 : Nat) (v2 : Bool) : V κ (wV) 0 0 62 [(0, .ref v0), (1, .ref v1), (2, .int (bI v2))] [] h (f1_takeValue_62 h v0 v1 v2) := by
  have hn : ∀ i, i < 3 → i < κ.2.2.2.2.1 := fun i q => hL ▸ q
  unfold f1_takeValue_62
  refine v_aload_n (i := 0) hc 0 rfl dX1_takeValue_62 rfl ?_
  refine v_getV hc kX1 7 (by decide) w_266 rfl dX1_takeValue_63 (gI rfl fun x63 => ?_)
  refine v_bipush (x := (60 : Int32)) hc dX1_takeValue_66 zb_60 ?_
  refine v_icmp_lt hc 80 dX1_takeValue_68 rfl ?_ ?_
  · refine v_aload_n (i := 0) hc 0 rfl dX1_takeValue_80 rfl ?_
    refine v_dup hc dX1_takeValue_81 rfl ?_
    refine v_getV hc kX1 7 (by decide) w_266 rfl dX1_takeValue_82 (gI rfl fun x82 => ?_)
    refine v_iconst (x := (1 : Int32)) hc dX1_takeValue_85 zi_1 ?_
    refine v_iadd hc dX1_takeValue_86 ?_
    refine v_put hc kX1 7 (by decide) w_266 rfl rfl dX1_takeValue_87 ⟨rfl, rfl⟩ fun h87 => ?_
    refine v_aload_n (i := 0) hc 0 rfl dX1_takeValue_90 rfl ?_
    refine v_iload_n (i := 2) hc 2 rfl dX1_takeValue_91 rfl ?_
    refine v_ifb_eq hc 105 dX1_takeValue_92 rfl ?_ ?_
    · refine v_aload_n (i := 1) hc 1 rfl dX1_takeValue_105 rfl ?_
      refine v_getVN hc kX6 4 (by decide) w_233 rfl dX1_takeValue_106 (gI rfl fun x106 => ?_)
      refine v_cV hc (m_V' (As := [.int x106]) (b := v0) (rest := []) 1 hc hr (fun l D tys base => ct1_emit l D tys base h87 v0 x106) (fun x hx => ob1_emit hx) rfl s1_emit w_728 rfl ⟨Nat.le_of_ble_eq_true rfl, Nat.le_of_ble_eq_true rfl⟩ ⟨Nat.le_of_ble_eq_true rfl, Nat.le_of_ble_eq_true rfl⟩ (Nat.le_of_ble_eq_true rfl) dX1_takeValue_109) fun x109 => ?_
      refine v_aload_n (i := 0) hc 0 rfl dX1_takeValue_112 rfl ?_
      refine v_iconst (x := (5 : Int32)) hc dX1_takeValue_113 zi_5 ?_
      refine v_put hc kX1 2 (by decide) w_261 rfl rfl dX1_takeValue_114 ⟨rfl, rfl⟩ fun h114 => ?_
      exact v_vret hc hq (Nat.le_of_ble_eq_true rfl) (Nat.le_of_ble_eq_true rfl) rfl dX1_takeValue_117
    · refine v_aload_n (i := 1) hc 1 rfl dX1_takeValue_95 rfl ?_
      refine v_getVN hc kX6 5 (by decide) w_235 rfl dX1_takeValue_96 (gI rfl fun x96 => ?_)
      refine v_cI hc (m_S' (As := [.int x96]) (rest := [.ref v0]) 1 hc hr (fun l D tys base => ct3_codeOfNumber l D tys base h87 x96) s3_codeOfNumber w_725 rfl ⟨Nat.le_of_ble_eq_true rfl, Nat.le_of_ble_eq_true rfl⟩ ⟨Nat.le_of_ble_eq_true rfl, Nat.le_of_ble_eq_true rfl⟩ (Nat.le_of_ble_eq_true rfl) dX1_takeValue_99) fun x99 => ?_
      refine v_goto hc 109 dX1_takeValue_102 rfl ?_
      refine v_cV hc (m_V' (As := [.int x99]) (b := v0) (rest := []) 1 hc hr (fun l D tys base => ct1_emit l D tys base h87 v0 x99) (fun x hx => ob1_emit hx) rfl s1_emit w_728 rfl ⟨Nat.le_of_ble_eq_true rfl, Nat.le_of_ble_eq_true rfl⟩ ⟨Nat.le_of_ble_eq_true rfl, Nat.le_of_ble_eq_true rfl⟩ (Nat.le_of_ble_eq_true rfl) dX1_takeValue_109) fun x109 => ?_
      refine v_aload_n (i := 0) hc 0 rfl dX1_takeValue_112 rfl ?_
      refine v_iconst (x := (5 : Int32)) hc dX1_takeValue_113 zi_5 ?_
      refine v_put hc kX1 2 (by decide) w_261 rfl rfl dX1_takeValue_114 ⟨rfl, rfl⟩ fun h114 => ?_
      exact v_vret hc hq (Nat.le_of_ble_eq_true rfl) (Nat.le_of_ble_eq_true rfl) rfl dX1_takeValue_117
  · refine v_aload_n (i := 0) hc 0 rfl dX1_takeValue_71 rfl ?_
    refine v_aload_n (i := 1) hc 1 rfl dX1_takeValue_72 rfl ?_
    refine v_iconst (x := (3 : Int32)) hc dX1_takeValue_73 zi_3 ?_
    refine v_cV hc (m_V' (As := [.ref v1, .int (3 : Int32)]) (b := v0) (rest := []) 2 hc hr (fun l D tys base => ct1_fail l D tys base h v0 v1 (3 : Int32)) (fun x hx => ob1_fail hx) rfl s1_fail w_697 rfl ⟨Nat.le_of_ble_eq_true rfl, Nat.le_of_ble_eq_true rfl⟩ ⟨Nat.le_of_ble_eq_true rfl, Nat.le_of_ble_eq_true rfl⟩ (Nat.le_of_ble_eq_true rfl) dX1_takeValue_74) fun x74 => ?_
    refine v_goto hc 117 dX1_takeValue_77 rfl ?_
    exact v_vret hc hq (Nat.le_of_ble_eq_true rfl) (Nat.le_of_ble_eq_true rfl) rfl dX1_takeValue_117
def f1_takeValue_14 (h : AH) (v0 : Nat) (v1 : Nat) (s0 : Bool) : Option (AH) := (if s0 = true then (if s0 = true then (fI 6 6 h v1).bind fun x46 => (if x46 ≤ (5 : Int32) then f1_takeValue_62 h v0 v1 s0 else (f1_fail h v0 v1 (1 : Int32)).bind fun x56 => some x56) else f1_takeValue_62 h v0 v1 s0) else (fI 6 4 h v1).bind fun x20 => (f8_isFrom h x20 (0 : Int32) (9 : Int32)).bind fun x26 => (if x26 = true then (if s0 = true then (fI 6 6 h v1).bind fun x46 => (if x46 ≤ (5 : Int32) then f1_takeValue_62 h v0 v1 s0 else (f1_fail h v0 v1 (1 : Int32)).bind fun x56 => some x56) else f1_takeValue_62 h v0 v1 s0) else (f1_fail h v0 v1 (0 : Int32)).bind fun x35 => some x35))
set_option maxRecDepth 100000 in
theorem vl1_takeValue_14 {κ : Kx} (hc : CX κ RX1 cX1_takeValue) (hr : RX κ ({ frames := 2, cells := 0, slots := 0, locals := 42 } : Room)) (hq : QX κ none 0 0) (hL : 3 = κ.2.2.2.2.1) (h : AH) (v0 : Nat) (v1 : Nat) (s0 : Bool) : V κ (wV) 0 0 14 [(0, .ref v0), (1, .ref v1)] [.int (bI s0)] h (f1_takeValue_14 h v0 v1 s0) := by
  have hn : ∀ i, i < 3 → i < κ.2.2.2.2.1 := fun i q => hL ▸ q
  unfold f1_takeValue_14
  refine v_istore_n (i := 2) (L' := [(2, .int (bI s0)), (0, .ref v0), (1, .ref v1)]) hc dX1_takeValue_14 rfl (hn 2 (Nat.le_of_ble_eq_true rfl)) rfl ?_
  refine v_iload_n (i := 2) hc 0 rfl dX1_takeValue_15 rfl ?_
  refine v_ifb_ne hc 41 dX1_takeValue_16 rfl ?_ ?_
  · refine v_iload_n (i := 2) hc 0 rfl dX1_takeValue_41 rfl ?_
    refine v_ifb_eq hc 62 dX1_takeValue_42 rfl ?_ ?_
    · refine v_sub (L' := [(0, .ref v0), (1, .ref v1), (2, .int (bI s0))]) [1, 2, 0] rfl ?_
      exact vl1_takeValue_62 hc hr hq hL h v0 v1 s0
    · refine v_aload_n (i := 1) hc 2 rfl dX1_takeValue_45 rfl ?_
      refine v_getVN hc kX6 6 (by decide) w_237 rfl dX1_takeValue_46 (gI rfl fun x46 => ?_)
      refine v_iconst (x := (5 : Int32)) hc dX1_takeValue_49 zi_5 ?_
      refine v_icmp_le hc 62 dX1_takeValue_50 rfl ?_ ?_
      · refine v_sub (L' := [(0, .ref v0), (1, .ref v1), (2, .int (bI s0))]) [1, 2, 0] rfl ?_
        exact vl1_takeValue_62 hc hr hq hL h v0 v1 s0
      · refine v_aload_n (i := 0) hc 1 rfl dX1_takeValue_53 rfl ?_
        refine v_aload_n (i := 1) hc 2 rfl dX1_takeValue_54 rfl ?_
        refine v_iconst (x := (1 : Int32)) hc dX1_takeValue_55 zi_1 ?_
        refine v_cV hc (m_V' (As := [.ref v1, .int (1 : Int32)]) (b := v0) (rest := []) 2 hc hr (fun l D tys base => ct1_fail l D tys base h v0 v1 (1 : Int32)) (fun x hx => ob1_fail hx) rfl s1_fail w_697 rfl ⟨Nat.le_of_ble_eq_true rfl, Nat.le_of_ble_eq_true rfl⟩ ⟨Nat.le_of_ble_eq_true rfl, Nat.le_of_ble_eq_true rfl⟩ (Nat.le_of_ble_eq_true rfl) dX1_takeValue_56) fun x56 => ?_
        refine v_goto hc 117 dX1_takeValue_59 rfl ?_
        exact v_vret hc hq (Nat.le_of_ble_eq_true rfl) (Nat.le_of_ble_eq_true rfl) rfl dX1_takeValue_117
  · refine v_aload_n (i := 1) hc 2 rfl dX1_takeValue_19 rfl ?_
    refine v_getVN hc kX6 4 (by decide) w_233 rfl dX1_takeValue_20 (gI rfl fun x20 => ?_)
    refine v_iconst (x := (0 : Int32)) hc dX1_takeValue_23 zi_0 ?_
    refine v_bipush (x := (9 : Int32)) hc dX1_takeValue_24 zb_9 ?_
    refine v_cB hc (m_SN' (As := [.int x20, .int (0 : Int32), .int (9 : Int32)]) (rest := []) 3 hc hr (fun l D tys base => ct8_isFrom l D tys base h x20 (0 : Int32) (9 : Int32)) s8_isFrom w_724 rfl ⟨Nat.le_of_ble_eq_true rfl, Nat.le_of_ble_eq_true rfl⟩ ⟨Nat.le_of_ble_eq_true rfl, Nat.le_of_ble_eq_true rfl⟩ (Nat.le_of_ble_eq_true rfl) dX1_takeValue_26) fun x26 => ?_
    refine v_ifb_ne hc 41 dX1_takeValue_29 rfl ?_ ?_
    · refine v_iload_n (i := 2) hc 0 rfl dX1_takeValue_41 rfl ?_
      refine v_ifb_eq hc 62 dX1_takeValue_42 rfl ?_ ?_
      · refine v_sub (L' := [(0, .ref v0), (1, .ref v1), (2, .int (bI s0))]) [1, 2, 0] rfl ?_
        exact vl1_takeValue_62 hc hr hq hL h v0 v1 s0
      · refine v_aload_n (i := 1) hc 2 rfl dX1_takeValue_45 rfl ?_
        refine v_getVN hc kX6 6 (by decide) w_237 rfl dX1_takeValue_46 (gI rfl fun x46 => ?_)
        refine v_iconst (x := (5 : Int32)) hc dX1_takeValue_49 zi_5 ?_
        refine v_icmp_le hc 62 dX1_takeValue_50 rfl ?_ ?_
        · refine v_sub (L' := [(0, .ref v0), (1, .ref v1), (2, .int (bI s0))]) [1, 2, 0] rfl ?_
          exact vl1_takeValue_62 hc hr hq hL h v0 v1 s0
        · refine v_aload_n (i := 0) hc 1 rfl dX1_takeValue_53 rfl ?_
          refine v_aload_n (i := 1) hc 2 rfl dX1_takeValue_54 rfl ?_
          refine v_iconst (x := (1 : Int32)) hc dX1_takeValue_55 zi_1 ?_
          refine v_cV hc (m_V' (As := [.ref v1, .int (1 : Int32)]) (b := v0) (rest := []) 2 hc hr (fun l D tys base => ct1_fail l D tys base h v0 v1 (1 : Int32)) (fun x hx => ob1_fail hx) rfl s1_fail w_697 rfl ⟨Nat.le_of_ble_eq_true rfl, Nat.le_of_ble_eq_true rfl⟩ ⟨Nat.le_of_ble_eq_true rfl, Nat.le_of_ble_eq_true rfl⟩ (Nat.le_of_ble_eq_true rfl) dX1_takeValue_56) fun x56 => ?_
          refine v_goto hc 117 dX1_takeValue_59 rfl ?_
          exact v_vret hc hq (Nat.le_of_ble_eq_true rfl) (Nat.le_of_ble_eq_true rfl) rfl dX1_takeValue_117
    · refine v_aload_n (i := 0) hc 1 rfl dX1_takeValue_32 rfl ?_
      refine v_aload_n (i := 1) hc 2 rfl dX1_takeValue_33 rfl ?_
      refine v_iconst (x := (0 : Int32)) hc dX1_takeValue_34 zi_0 ?_
      refine v_cV hc (m_V' (As := [.ref v1, .int (0 : Int32)]) (b := v0) (rest := []) 2 hc hr (fun l D tys base => ct1_fail l D tys base h v0 v1 (0 : Int32)) (fun x hx => ob1_fail hx) rfl s1_fail w_697 rfl ⟨Nat.le_of_ble_eq_true rfl, Nat.le_of_ble_eq_true rfl⟩ ⟨Nat.le_of_ble_eq_true rfl, Nat.le_of_ble_eq_true rfl⟩ (Nat.le_of_ble_eq_true rfl) dX1_takeValue_35) fun x35 => ?_
      refine v_goto hc 117 dX1_takeValue_38 rfl ?_
      exact v_vret hc hq (Nat.le_of_ble_eq_true rfl) (Nat.le_of_ble_eq_true rfl) rfl dX1_takeValue_117
def f1_takeValue (h : AH) (this : Nat) (p0 : Nat) : Option (AH) := (hObj 1 h this).bind fun _ => (fI 6 4 h p0).bind fun x1 => (if x1 = (21 : Int32) then f1_takeValue_14 h this p0 true else f1_takeValue_14 h this p0 false)
theorem ob1_takeValue {h : AH} {this : Nat} {p0 : Nat} {x : AH} (e : f1_takeValue h this p0 = some x) : ∃ fs, hObj 1 h this = some fs := by
  unfold f1_takeValue at e
  obtain ⟨fs, h1, -⟩ := bd e
  exact ⟨fs, h1⟩
set_option maxRecDepth 100000 in
theorem ct1_takeValue (l : Launch) (D : va_G) (tys : Tys) (base : Nat) (h : AH) (this : Nat) (p0 : Nat) : Ct l D tys base yX1_takeValue cX1_takeValue 3 none 2 42 0 0 [.ref this, .ref p0] h (wV) (f1_takeValue h this p0) := by
  refine Ct.intro (own := RX1) (L := [(0, .ref this), (1, .ref p0)]) rfl (by decide) rfl (Nat.le_of_ble_eq_true rfl) fun κ hc hr hq hi hL => ?_
  have hn : ∀ i, i < 3 → i < κ.2.2.2.2.1 := fun i q => hL ▸ q
  unfold f1_takeValue
  refine v_obj ?_
  refine v_aload_n (i := 1) hc 1 rfl dX1_takeValue_0 rfl ?_
  refine v_getVN hc kX6 4 (by decide) w_233 rfl dX1_takeValue_1 (gI rfl fun x1 => ?_)
  refine v_bipush (x := (21 : Int32)) hc dX1_takeValue_4 zb_21 ?_
  refine v_icmp_ne hc 13 dX1_takeValue_6 rfl ?_ ?_
  · refine v_iconst (x := (0 : Int32)) hc dX1_takeValue_13 zi_0 ?_
    refine v_sub (L' := [(0, .ref this), (1, .ref p0)]) [0, 1] rfl ?_
    exact vl1_takeValue_14 hc hr hq hL h this p0 false
  · refine v_iconst (x := (1 : Int32)) hc dX1_takeValue_9 zi_1 ?_
    refine v_goto hc 14 dX1_takeValue_10 rfl ?_
    refine v_sub (L' := [(0, .ref this), (1, .ref p0)]) [0, 1] rfl ?_
    exact vl1_takeValue_14 hc hr hq hL h this p0 true
theorem s1_takeValue : YV yX1_takeValue RX1 cX1_takeValue 3 none 1 := ⟨w_723, w_722, w_15, w_114, rfl, by decide +kernel, by decide +kernel, by decide +kernel⟩
def f1_putOff (h : AH) (this : Nat) (p0 : Int32) : Option (AH) := (hObj 1 h this).bind fun _ => (fI 1 10 h this).bind fun x1 => (if x1 < 0 then some h else (fI 1 10 h this).bind fun x8 => (fR 1 9 h this).bind fun x12 => (aN h x12).bind fun x15 => (if x15 ≤ x8 then some h else (fR 1 9 h this).bind fun x20 => (fI 1 10 h this).bind fun x24 => (sI 0 h x20 x24 p0).bind fun h28 => (fI 1 10 h28 this).bind fun x31 => (fS 1 10 h28 this (.int (x31 + (1 : Int32)))).bind fun h36 => some h36))
theorem ob1_putOff {h : AH} {this : Nat} {p0 : Int32} {x : AH} (e : f1_putOff h this p0 = some x) : ∃ fs, hObj 1 h this = some fs := by
  unfold f1_putOff at e
  obtain ⟨fs, h1, -⟩ := bd e
  exact ⟨fs, h1⟩
set_option maxRecDepth 100000 in
theorem ct1_putOff (l : Launch) (D : va_G) (tys : Tys) (base : Nat) (h : AH) (this : Nat) (p0 : Int32) : Ct l D tys base yX1_putOff cX1_putOff 2 none 0 0 0 0 [.ref this, .int p0] h (wV) (f1_putOff h this p0) := by
  refine Ct.intro (own := RX1) (L := [(0, .ref this), (1, .int p0)]) rfl (by decide) rfl (Nat.le_of_ble_eq_true rfl) fun κ hc hr hq hi hL => ?_
  have hn : ∀ i, i < 2 → i < κ.2.2.2.2.1 := fun i q => hL ▸ q
  unfold f1_putOff
  refine v_obj ?_
  refine v_aload_n (i := 0) hc 0 rfl dX1_putOff_0 rfl ?_
  refine v_getV hc kX1 10 (by decide) w_269 rfl dX1_putOff_1 (gI rfl fun x1 => ?_)
  refine v_if_lt hc 39 dX1_putOff_4 rfl ?_ ?_
  · exact v_vret hc hq (Nat.le_of_ble_eq_true rfl) (Nat.le_of_ble_eq_true rfl) rfl dX1_putOff_39
  · refine v_aload_n (i := 0) hc 0 rfl dX1_putOff_7 rfl ?_
    refine v_getV hc kX1 10 (by decide) w_269 rfl dX1_putOff_8 (gI rfl fun x8 => ?_)
    refine v_aload_n (i := 0) hc 0 rfl dX1_putOff_11 rfl ?_
    refine v_getV hc kX1 9 (by decide) w_268 rfl dX1_putOff_12 (gR rfl fun x12 => ?_)
    refine v_alen hc dX1_putOff_15 fun x15 => ?_
    refine v_icmp_ge hc 39 dX1_putOff_16 rfl ?_ ?_
    · exact v_vret hc hq (Nat.le_of_ble_eq_true rfl) (Nat.le_of_ble_eq_true rfl) rfl dX1_putOff_39
    · refine v_aload_n (i := 0) hc 0 rfl dX1_putOff_19 rfl ?_
      refine v_getV hc kX1 9 (by decide) w_268 rfl dX1_putOff_20 (gR rfl fun x20 => ?_)
      refine v_aload_n (i := 0) hc 0 rfl dX1_putOff_23 rfl ?_
      refine v_getV hc kX1 10 (by decide) w_269 rfl dX1_putOff_24 (gI rfl fun x24 => ?_)
      refine v_iload_n (i := 1) hc 1 rfl dX1_putOff_27 rfl ?_
      refine v_iast hc dX1_putOff_28 fun h28 => ?_
      refine v_aload_n (i := 0) hc 0 rfl dX1_putOff_29 rfl ?_
      refine v_dup hc dX1_putOff_30 rfl ?_
      refine v_getV hc kX1 10 (by decide) w_269 rfl dX1_putOff_31 (gI rfl fun x31 => ?_)
      refine v_iconst (x := (1 : Int32)) hc dX1_putOff_34 zi_1 ?_
      refine v_iadd hc dX1_putOff_35 ?_
      refine v_put hc kX1 10 (by decide) w_269 rfl rfl dX1_putOff_36 ⟨rfl, rfl⟩ fun h36 => ?_
      exact v_vret hc hq (Nat.le_of_ble_eq_true rfl) (Nat.le_of_ble_eq_true rfl) rfl dX1_putOff_39
theorem s1_putOff : YV yX1_putOff RX1 cX1_putOff 2 none 1 := ⟨w_743, w_742, w_18, w_114, rfl, by decide +kernel, by decide +kernel, by decide +kernel⟩
def f1_takeFactStart_31 (h : AH) (v0 : Nat) (v1 : Nat) : Option (AH) := (fI 1 11 h v0).bind fun x32 => (if x32 < (10 : Int32) then (fI 1 11 h v0).bind fun x51 => (fS 1 11 h v0 (.int (x51 + (1 : Int32)))).bind fun h56 => (fI 1 12 h56 v0).bind fun x61 => (fI 6 4 h56 v1).bind fun x65 => (if x65 = (30 : Int32) then (fS 1 12 h56 v0 (.int (x61 + (1 : Int32)))).bind fun h79 => (fI 6 4 h79 v1).bind fun x84 => (f1_putOff h79 v0 x84).bind fun x87 => some x87 else (fS 1 12 h56 v0 (.int (x61 + (0 : Int32)))).bind fun h79 => (fI 6 4 h79 v1).bind fun x84 => (f1_putOff h79 v0 x84).bind fun x87 => some x87) else (f1_fail h v0 v1 (2 : Int32)).bind fun x43 => some x43)
set_option maxRecDepth 100000 in
theorem vl1_takeFactStart_31 {κ : Kx} (hc : CX κ RX1 cX1_takeFactStart) (hr : RX κ ({ frames := 3, cells := 0, slots := 0, locals := 64 } : Room)) (hq : QX κ none 0 0) (hL : 2 = κ.2.2.2.2.1) (h : AH) (v0 : Nat) (v1 : Nat) : V κ (wV) 0 0 31 [(0, .ref v0), (1, .ref v1)] [] h (f1_takeFactStart_31 h v0 v1) := by
  have hn : ∀ i, i < 2 → i < κ.2.2.2.2.1 := fun i q => hL ▸ q
  unfold f1_takeFactStart_31
  refine v_aload_n (i := 0) hc 0 rfl dX1_takeFactStart_31 rfl ?_
  refine v_getV hc kX1 11 (by decide) w_270 rfl dX1_takeFactStart_32 (gI rfl fun x32 => ?_)
  refine v_bipush (x := (10 : Int32)) hc dX1_takeFactStart_35 zb_10 ?_
  refine v_icmp_lt hc 49 dX1_takeFactStart_37 rfl ?_ ?_
  · refine v_aload_n (i := 0) hc 0 rfl dX1_takeFactStart_49 rfl ?_
    refine v_dup hc dX1_takeFactStart_50 rfl ?_
    refine v_getV hc kX1 11 (by decide) w_270 rfl dX1_takeFactStart_51 (gI rfl fun x51 => ?_)
    refine v_iconst (x := (1 : Int32)) hc dX1_takeFactStart_54 zi_1 ?_
    refine v_iadd hc dX1_takeFactStart_55 ?_
    refine v_put hc kX1 11 (by decide) w_270 rfl rfl dX1_takeFactStart_56 ⟨rfl, rfl⟩ fun h56 => ?_
    refine v_aload_n (i := 0) hc 0 rfl dX1_takeFactStart_59 rfl ?_
    refine v_dup hc dX1_takeFactStart_60 rfl ?_
    refine v_getV hc kX1 12 (by decide) w_271 rfl dX1_takeFactStart_61 (gI rfl fun x61 => ?_)
    refine v_aload_n (i := 1) hc 1 rfl dX1_takeFactStart_64 rfl ?_
    refine v_getVN hc kX6 4 (by decide) w_233 rfl dX1_takeFactStart_65 (gI rfl fun x65 => ?_)
    refine v_bipush (x := (30 : Int32)) hc dX1_takeFactStart_68 zb_30 ?_
    refine v_icmp_ne hc 77 dX1_takeFactStart_70 rfl ?_ ?_
    · refine v_iconst (x := (0 : Int32)) hc dX1_takeFactStart_77 zi_0 ?_
      refine v_iadd hc dX1_takeFactStart_78 ?_
      refine v_put hc kX1 12 (by decide) w_271 rfl rfl dX1_takeFactStart_79 ⟨rfl, rfl⟩ fun h79 => ?_
      refine v_aload_n (i := 0) hc 0 rfl dX1_takeFactStart_82 rfl ?_
      refine v_aload_n (i := 1) hc 1 rfl dX1_takeFactStart_83 rfl ?_
      refine v_getVN hc kX6 4 (by decide) w_233 rfl dX1_takeFactStart_84 (gI rfl fun x84 => ?_)
      refine v_cV hc (m_V' (As := [.int x84]) (b := v0) (rest := []) 1 hc hr (fun l D tys base => ct1_putOff l D tys base h79 v0 x84) (fun x hx => ob1_putOff hx) rfl s1_putOff w_740 rfl ⟨Nat.le_of_ble_eq_true rfl, Nat.le_of_ble_eq_true rfl⟩ ⟨Nat.le_of_ble_eq_true rfl, Nat.le_of_ble_eq_true rfl⟩ (Nat.le_of_ble_eq_true rfl) dX1_takeFactStart_87) fun x87 => ?_
      exact v_vret hc hq (Nat.le_of_ble_eq_true rfl) (Nat.le_of_ble_eq_true rfl) rfl dX1_takeFactStart_90
    · refine v_iconst (x := (1 : Int32)) hc dX1_takeFactStart_73 zi_1 ?_
      refine v_goto hc 78 dX1_takeFactStart_74 rfl ?_
      refine v_iadd hc dX1_takeFactStart_78 ?_
      refine v_put hc kX1 12 (by decide) w_271 rfl rfl dX1_takeFactStart_79 ⟨rfl, rfl⟩ fun h79 => ?_
      refine v_aload_n (i := 0) hc 0 rfl dX1_takeFactStart_82 rfl ?_
      refine v_aload_n (i := 1) hc 1 rfl dX1_takeFactStart_83 rfl ?_
      refine v_getVN hc kX6 4 (by decide) w_233 rfl dX1_takeFactStart_84 (gI rfl fun x84 => ?_)
      refine v_cV hc (m_V' (As := [.int x84]) (b := v0) (rest := []) 1 hc hr (fun l D tys base => ct1_putOff l D tys base h79 v0 x84) (fun x hx => ob1_putOff hx) rfl s1_putOff w_740 rfl ⟨Nat.le_of_ble_eq_true rfl, Nat.le_of_ble_eq_true rfl⟩ ⟨Nat.le_of_ble_eq_true rfl, Nat.le_of_ble_eq_true rfl⟩ (Nat.le_of_ble_eq_true rfl) dX1_takeFactStart_87) fun x87 => ?_
      exact v_vret hc hq (Nat.le_of_ble_eq_true rfl) (Nat.le_of_ble_eq_true rfl) rfl dX1_takeFactStart_90
  · refine v_aload_n (i := 0) hc 0 rfl dX1_takeFactStart_40 rfl ?_
    refine v_aload_n (i := 1) hc 1 rfl dX1_takeFactStart_41 rfl ?_
    refine v_iconst (x := (2 : Int32)) hc dX1_takeFactStart_42 zi_2 ?_
    refine v_cV hc (m_V' (As := [.ref v1, .int (2 : Int32)]) (b := v0) (rest := []) 2 hc hr (fun l D tys base => ct1_fail l D tys base h v0 v1 (2 : Int32)) (fun x hx => ob1_fail hx) rfl s1_fail w_697 rfl ⟨Nat.le_of_ble_eq_true rfl, Nat.le_of_ble_eq_true rfl⟩ ⟨Nat.le_of_ble_eq_true rfl, Nat.le_of_ble_eq_true rfl⟩ (Nat.le_of_ble_eq_true rfl) dX1_takeFactStart_43) fun x43 => ?_
    refine v_goto hc 90 dX1_takeFactStart_46 rfl ?_
    exact v_vret hc hq (Nat.le_of_ble_eq_true rfl) (Nat.le_of_ble_eq_true rfl) rfl dX1_takeFactStart_90
def f1_takeFactStart (h : AH) (this : Nat) (p0 : Nat) : Option (AH) := (hObj 1 h this).bind fun _ => (fI 6 4 h p0).bind fun x1 => (if x1 = (20 : Int32) then f1_takeFactStart_31 h this p0 else (fI 6 4 h p0).bind fun x10 => (if x10 = (30 : Int32) then f1_takeFactStart_31 h this p0 else (fS 1 3 h this (.int (1 : Int32))).bind fun h20 => (f1_takeValue h20 this p0).bind fun x25 => some x25))
theorem ob1_takeFactStart {h : AH} {this : Nat} {p0 : Nat} {x : AH} (e : f1_takeFactStart h this p0 = some x) : ∃ fs, hObj 1 h this = some fs := by
  unfold f1_takeFactStart at e
  obtain ⟨fs, h1, -⟩ := bd e
  exact ⟨fs, h1⟩
set_option maxRecDepth 100000 in
theorem ct1_takeFactStart (l : Launch) (D : va_G) (tys : Tys) (base : Nat) (h : AH) (this : Nat) (p0 : Nat) : Ct l D tys base yX1_takeFactStart cX1_takeFactStart 2 none 3 64 0 0 [.ref this, .ref p0] h (wV) (f1_takeFactStart h this p0) := by
  refine Ct.intro (own := RX1) (L := [(0, .ref this), (1, .ref p0)]) rfl (by decide) rfl (Nat.le_of_ble_eq_true rfl) fun κ hc hr hq hi hL => ?_
  have hn : ∀ i, i < 2 → i < κ.2.2.2.2.1 := fun i q => hL ▸ q
  unfold f1_takeFactStart
  refine v_obj ?_
  refine v_aload_n (i := 1) hc 1 rfl dX1_takeFactStart_0 rfl ?_
  refine v_getVN hc kX6 4 (by decide) w_233 rfl dX1_takeFactStart_1 (gI rfl fun x1 => ?_)
  refine v_bipush (x := (20 : Int32)) hc dX1_takeFactStart_4 zb_20 ?_
  refine v_icmp_eq hc 31 dX1_takeFactStart_6 rfl ?_ ?_
  · refine v_sub (L' := [(0, .ref this), (1, .ref p0)]) [0, 1] rfl ?_
    exact vl1_takeFactStart_31 hc hr hq hL h this p0
  · refine v_aload_n (i := 1) hc 1 rfl dX1_takeFactStart_9 rfl ?_
    refine v_getVN hc kX6 4 (by decide) w_233 rfl dX1_takeFactStart_10 (gI rfl fun x10 => ?_)
    refine v_bipush (x := (30 : Int32)) hc dX1_takeFactStart_13 zb_30 ?_
    refine v_icmp_eq hc 31 dX1_takeFactStart_15 rfl ?_ ?_
    · refine v_sub (L' := [(0, .ref this), (1, .ref p0)]) [0, 1] rfl ?_
      exact vl1_takeFactStart_31 hc hr hq hL h this p0
    · refine v_aload_n (i := 0) hc 0 rfl dX1_takeFactStart_18 rfl ?_
      refine v_iconst (x := (1 : Int32)) hc dX1_takeFactStart_19 zi_1 ?_
      refine v_put hc kX1 3 (by decide) w_262 rfl rfl dX1_takeFactStart_20 ⟨rfl, rfl⟩ fun h20 => ?_
      refine v_aload_n (i := 0) hc 0 rfl dX1_takeFactStart_23 rfl ?_
      refine v_aload_n (i := 1) hc 1 rfl dX1_takeFactStart_24 rfl ?_
      refine v_cV hc (m_V' (As := [.ref p0]) (b := this) (rest := []) 1 hc hr (fun l D tys base => ct1_takeValue l D tys base h20 this p0) (fun x hx => ob1_takeValue hx) rfl s1_takeValue w_720 rfl ⟨Nat.le_of_ble_eq_true rfl, Nat.le_of_ble_eq_true rfl⟩ ⟨Nat.le_of_ble_eq_true rfl, Nat.le_of_ble_eq_true rfl⟩ (Nat.le_of_ble_eq_true rfl) dX1_takeFactStart_25) fun x25 => ?_
      refine v_goto hc 90 dX1_takeFactStart_28 rfl ?_
      exact v_vret hc hq (Nat.le_of_ble_eq_true rfl) (Nat.le_of_ble_eq_true rfl) rfl dX1_takeFactStart_90
theorem s1_takeFactStart : YV yX1_takeFactStart RX1 cX1_takeFactStart 2 none 1 := ⟨w_739, w_738, w_17, w_114, rfl, by decide +kernel, by decide +kernel, by decide +kernel⟩
def f1_closeness (h : AH) (p0 : Int32) : Option (Int32) := (if p0 = (18 : Int32) then some (1 : Int32) else (if p0 = (19 : Int32) then some (2 : Int32) else (if p0 = (20 : Int32) then some (3 : Int32) else (if p0 = (21 : Int32) then some (4 : Int32) else (if p0 = (22 : Int32) then some (4 : Int32) else (if p0 = (23 : Int32) then some (4 : Int32) else (if p0 = (24 : Int32) then some (4 : Int32) else (if p0 = (25 : Int32) then some (4 : Int32) else (if p0 = (26 : Int32) then some (4 : Int32) else (if p0 = (27 : Int32) then some (5 : Int32) else (if p0 = (28 : Int32) then some (5 : Int32) else (if p0 = (29 : Int32) then some (6 : Int32) else (if p0 = (30 : Int32) then some (0 : Int32) else some (4 : Int32))))))))))))))
set_option maxRecDepth 100000 in
theorem ct1_closeness (l : Launch) (D : va_G) (tys : Tys) (base : Nat) (h : AH) (p0 : Int32) : Ct l D tys base yX1_closeness cX1_closeness 1 (some .int) 0 0 0 0 [.int p0] h (rI h) (f1_closeness h p0) := by
  refine Ct.intro (own := RX1) (L := [(0, .int p0)]) rfl (by decide) rfl (Nat.le_of_ble_eq_true rfl) fun κ hc hr hq hi hL => ?_
  have hn : ∀ i, i < 1 → i < κ.2.2.2.2.1 := fun i q => hL ▸ q
  unfold f1_closeness
  refine v_iload_n (i := 0) hc 0 rfl dX1_closeness_0 rfl ?_
  refine v_ite (fun q18 => ?_) (fun q18 => ?_)
  · refine v_tIn hc (18 : Int32) q18 70 dX1_closeness_1 (by decide) (by decide) rfl rfl ?_
    refine v_iconst (x := (1 : Int32)) hc dX1_closeness_70 zi_1 ?_
    exact v_iret hc hq rfl rfl (Nat.le_of_ble_eq_true rfl) (Nat.le_of_ble_eq_true rfl) rfl dX1_closeness_71
  · refine v_ite (fun q19 => ?_) (fun q19 => ?_)
    · refine v_tIn hc (19 : Int32) q19 72 dX1_closeness_1 (by decide) (by decide) rfl rfl ?_
      refine v_iconst (x := (2 : Int32)) hc dX1_closeness_72 zi_2 ?_
      exact v_iret hc hq rfl rfl (Nat.le_of_ble_eq_true rfl) (Nat.le_of_ble_eq_true rfl) rfl dX1_closeness_73
    · refine v_ite (fun q20 => ?_) (fun q20 => ?_)
      · refine v_tIn hc (20 : Int32) q20 74 dX1_closeness_1 (by decide) (by decide) rfl rfl ?_
        refine v_iconst (x := (3 : Int32)) hc dX1_closeness_74 zi_3 ?_
        exact v_iret hc hq rfl rfl (Nat.le_of_ble_eq_true rfl) (Nat.le_of_ble_eq_true rfl) rfl dX1_closeness_75
      · refine v_ite (fun q21 => ?_) (fun q21 => ?_)
        · refine v_tIn hc (21 : Int32) q21 81 dX1_closeness_1 (by decide) (by decide) rfl rfl ?_
          refine v_iconst (x := (4 : Int32)) hc dX1_closeness_81 zi_4 ?_
          exact v_iret hc hq rfl rfl (Nat.le_of_ble_eq_true rfl) (Nat.le_of_ble_eq_true rfl) rfl dX1_closeness_82
        · refine v_ite (fun q22 => ?_) (fun q22 => ?_)
          · refine v_tIn hc (22 : Int32) q22 81 dX1_closeness_1 (by decide) (by decide) rfl rfl ?_
            refine v_iconst (x := (4 : Int32)) hc dX1_closeness_81 zi_4 ?_
            exact v_iret hc hq rfl rfl (Nat.le_of_ble_eq_true rfl) (Nat.le_of_ble_eq_true rfl) rfl dX1_closeness_82
          · refine v_ite (fun q23 => ?_) (fun q23 => ?_)
            · refine v_tIn hc (23 : Int32) q23 81 dX1_closeness_1 (by decide) (by decide) rfl rfl ?_
              refine v_iconst (x := (4 : Int32)) hc dX1_closeness_81 zi_4 ?_
              exact v_iret hc hq rfl rfl (Nat.le_of_ble_eq_true rfl) (Nat.le_of_ble_eq_true rfl) rfl dX1_closeness_82
            · refine v_ite (fun q24 => ?_) (fun q24 => ?_)
              · refine v_tIn hc (24 : Int32) q24 81 dX1_closeness_1 (by decide) (by decide) rfl rfl ?_
                refine v_iconst (x := (4 : Int32)) hc dX1_closeness_81 zi_4 ?_
                exact v_iret hc hq rfl rfl (Nat.le_of_ble_eq_true rfl) (Nat.le_of_ble_eq_true rfl) rfl dX1_closeness_82
              · refine v_ite (fun q25 => ?_) (fun q25 => ?_)
                · refine v_tIn hc (25 : Int32) q25 81 dX1_closeness_1 (by decide) (by decide) rfl rfl ?_
                  refine v_iconst (x := (4 : Int32)) hc dX1_closeness_81 zi_4 ?_
                  exact v_iret hc hq rfl rfl (Nat.le_of_ble_eq_true rfl) (Nat.le_of_ble_eq_true rfl) rfl dX1_closeness_82
                · refine v_ite (fun q26 => ?_) (fun q26 => ?_)
                  · refine v_tIn hc (26 : Int32) q26 81 dX1_closeness_1 (by decide) (by decide) rfl rfl ?_
                    refine v_iconst (x := (4 : Int32)) hc dX1_closeness_81 zi_4 ?_
                    exact v_iret hc hq rfl rfl (Nat.le_of_ble_eq_true rfl) (Nat.le_of_ble_eq_true rfl) rfl dX1_closeness_82
                  · refine v_ite (fun q27 => ?_) (fun q27 => ?_)
                    · refine v_tIn hc (27 : Int32) q27 76 dX1_closeness_1 (by decide) (by decide) rfl rfl ?_
                      refine v_iconst (x := (5 : Int32)) hc dX1_closeness_76 zi_5 ?_
                      exact v_iret hc hq rfl rfl (Nat.le_of_ble_eq_true rfl) (Nat.le_of_ble_eq_true rfl) rfl dX1_closeness_77
                    · refine v_ite (fun q28 => ?_) (fun q28 => ?_)
                      · refine v_tIn hc (28 : Int32) q28 76 dX1_closeness_1 (by decide) (by decide) rfl rfl ?_
                        refine v_iconst (x := (5 : Int32)) hc dX1_closeness_76 zi_5 ?_
                        exact v_iret hc hq rfl rfl (Nat.le_of_ble_eq_true rfl) (Nat.le_of_ble_eq_true rfl) rfl dX1_closeness_77
                      · refine v_ite (fun q29 => ?_) (fun q29 => ?_)
                        · refine v_tIn hc (29 : Int32) q29 78 dX1_closeness_1 (by decide) (by decide) rfl rfl ?_
                          refine v_bipush (x := (6 : Int32)) hc dX1_closeness_78 zb_6 ?_
                          exact v_iret hc hq rfl rfl (Nat.le_of_ble_eq_true rfl) (Nat.le_of_ble_eq_true rfl) rfl dX1_closeness_80
                        · refine v_ite (fun q30 => ?_) (fun q30 => ?_)
                          · refine v_tIn hc (30 : Int32) q30 68 dX1_closeness_1 (by decide) (by decide) rfl rfl ?_
                            refine v_iconst (x := (0 : Int32)) hc dX1_closeness_68 zi_0 ?_
                            exact v_iret hc hq rfl rfl (Nat.le_of_ble_eq_true rfl) (Nat.le_of_ble_eq_true rfl) rfl dX1_closeness_69
                          · refine v_tOut hc 81 dX1_closeness_1 (by have e18 := lv_neT (a := 18) q18 (by decide); have e19 := lv_neT (a := 19) q19 (by decide); have e20 := lv_neT (a := 20) q20 (by decide); have e21 := lv_neT (a := 21) q21 (by decide); have e22 := lv_neT (a := 22) q22 (by decide); have e23 := lv_neT (a := 23) q23 (by decide); have e24 := lv_neT (a := 24) q24 (by decide); have e25 := lv_neT (a := 25) q25 (by decide); have e26 := lv_neT (a := 26) q26 (by decide); have e27 := lv_neT (a := 27) q27 (by decide); have e28 := lv_neT (a := 28) q28 (by decide); have e29 := lv_neT (a := 29) q29 (by decide); have e30 := lv_neT (a := 30) q30 (by decide); omega) rfl ?_
                            refine v_iconst (x := (4 : Int32)) hc dX1_closeness_81 zi_4 ?_
                            exact v_iret hc hq rfl rfl (Nat.le_of_ble_eq_true rfl) (Nat.le_of_ble_eq_true rfl) rfl dX1_closeness_82
theorem s1_closeness : YS yX1_closeness cX1_closeness 1 (some .int) 1 := ⟨w_754, w_753, w_114, by decide +kernel, by decide +kernel, by decide +kernel⟩
def f1_lastWaiting (h : AH) (this : Nat) : Option (Int32) := (hObj 1 h this).bind fun _ => (fI 1 10 h this).bind fun x1 => (if x1 ≤ 0 then some (30 : Int32) else (fI 1 10 h this).bind fun x8 => (fR 1 9 h this).bind fun x12 => (aN h x12).bind fun x15 => (if x15 < x8 then some (30 : Int32) else (fR 1 9 h this).bind fun x20 => (fI 1 10 h this).bind fun x24 => (aI 0 h x20 (x24 - (1 : Int32))).bind fun x29 => some x29))
theorem ob1_lastWaiting {h : AH} {this : Nat} {x : Int32} (e : f1_lastWaiting h this = some x) : ∃ fs, hObj 1 h this = some fs := by
  unfold f1_lastWaiting at e
  obtain ⟨fs, h1, -⟩ := bd e
  exact ⟨fs, h1⟩
set_option maxRecDepth 100000 in
theorem ct1_lastWaiting (l : Launch) (D : va_G) (tys : Tys) (base : Nat) (h : AH) (this : Nat) : Ct l D tys base yX1_lastWaiting cX1_lastWaiting 1 (some .int) 0 0 0 0 [.ref this] h (rI h) (f1_lastWaiting h this) := by
  refine Ct.intro (own := RX1) (L := [(0, .ref this)]) rfl (by decide) rfl (Nat.le_of_ble_eq_true rfl) fun κ hc hr hq hi hL => ?_
  have hn : ∀ i, i < 1 → i < κ.2.2.2.2.1 := fun i q => hL ▸ q
  unfold f1_lastWaiting
  refine v_obj ?_
  refine v_aload_n (i := 0) hc 0 rfl dX1_lastWaiting_0 rfl ?_
  refine v_getV hc kX1 10 (by decide) w_269 rfl dX1_lastWaiting_1 (gI rfl fun x1 => ?_)
  refine v_if_le hc 33 dX1_lastWaiting_4 rfl ?_ ?_
  · refine v_bipush (x := (30 : Int32)) hc dX1_lastWaiting_33 zb_30 ?_
    exact v_iret hc hq rfl rfl (Nat.le_of_ble_eq_true rfl) (Nat.le_of_ble_eq_true rfl) rfl dX1_lastWaiting_35
  · refine v_aload_n (i := 0) hc 0 rfl dX1_lastWaiting_7 rfl ?_
    refine v_getV hc kX1 10 (by decide) w_269 rfl dX1_lastWaiting_8 (gI rfl fun x8 => ?_)
    refine v_aload_n (i := 0) hc 0 rfl dX1_lastWaiting_11 rfl ?_
    refine v_getV hc kX1 9 (by decide) w_268 rfl dX1_lastWaiting_12 (gR rfl fun x12 => ?_)
    refine v_alen hc dX1_lastWaiting_15 fun x15 => ?_
    refine v_icmp_gt hc 33 dX1_lastWaiting_16 rfl ?_ ?_
    · refine v_bipush (x := (30 : Int32)) hc dX1_lastWaiting_33 zb_30 ?_
      exact v_iret hc hq rfl rfl (Nat.le_of_ble_eq_true rfl) (Nat.le_of_ble_eq_true rfl) rfl dX1_lastWaiting_35
    · refine v_aload_n (i := 0) hc 0 rfl dX1_lastWaiting_19 rfl ?_
      refine v_getV hc kX1 9 (by decide) w_268 rfl dX1_lastWaiting_20 (gR rfl fun x20 => ?_)
      refine v_aload_n (i := 0) hc 0 rfl dX1_lastWaiting_23 rfl ?_
      refine v_getV hc kX1 10 (by decide) w_269 rfl dX1_lastWaiting_24 (gI rfl fun x24 => ?_)
      refine v_iconst (x := (1 : Int32)) hc dX1_lastWaiting_27 zi_1 ?_
      refine v_isub hc dX1_lastWaiting_28 ?_
      refine v_iald hc dX1_lastWaiting_29 fun x29 => ?_
      refine v_goto hc 35 dX1_lastWaiting_30 rfl ?_
      exact v_iret hc hq rfl rfl (Nat.le_of_ble_eq_true rfl) (Nat.le_of_ble_eq_true rfl) rfl dX1_lastWaiting_35
theorem s1_lastWaiting : YV yX1_lastWaiting RX1 cX1_lastWaiting 1 (some .int) 0 := ⟨w_762, w_761, w_22, w_114, rfl, by decide +kernel, by decide +kernel, by decide +kernel⟩
def f1_emitDownTo_0 (v0 : Nat) (v1 : Int32) : Nat → AH → Option (AH)
  | 0, _ => none
  | n + 1, h => (fI 1 10 h v0).bind fun x1 => (if x1 ≤ 0 then some h else (f1_lastWaiting h v0).bind fun x8 => (f1_closeness h x8).bind fun x11 => (if x11 < v1 then some h else (f1_lastWaiting h v0).bind fun x19 => (if x19 = (20 : Int32) then (fI 1 11 h v0).bind fun x29 => (fS 1 11 h v0 (.int (x29 - (1 : Int32)))).bind fun h34 => (f1_lastWaiting h34 v0).bind fun x39 => (f1_emit h34 v0 x39).bind fun x42 => (fI 1 10 x42 v0).bind fun x47 => (fS 1 10 x42 v0 (.int (x47 - (1 : Int32)))).bind fun h52 => f1_emitDownTo_0 v0 v1 n h52 else (f1_lastWaiting h v0).bind fun x39 => (f1_emit h v0 x39).bind fun x42 => (fI 1 10 x42 v0).bind fun x47 => (fS 1 10 x42 v0 (.int (x47 - (1 : Int32)))).bind fun h52 => f1_emitDownTo_0 v0 v1 n h52)))
set_option maxRecDepth 100000 in
theorem vl1_emitDownTo_0 {κ : Kx} (hc : CX κ RX1 cX1_emitDownTo) (hr : RX κ ({ frames := 2, cells := 0, slots := 0, locals := 42 } : Room)) (hq : QX κ none 0 0) (hL : 2 = κ.2.2.2.2.1)  (v0 : Nat) (v1 : Int32) : ∀ n (h : AH), V κ (wV) 0 0 0 [(0, .ref v0), (1, .int v1)] [] h (f1_emitDownTo_0 v0 v1 n h) := by
  have hn : ∀ i, i < 2 → i < κ.2.2.2.2.1 := fun i q => hL ▸ q
  intro n
  induction n with
  | zero => intros; exact v_none
  | succ n ih =>
    intro h
    rw [f1_emitDownTo_0.eq_2]
    refine v_aload_n (i := 0) hc 0 rfl dX1_emitDownTo_0 rfl ?_
    refine v_getV hc kX1 10 (by decide) w_269 rfl dX1_emitDownTo_1 (gI rfl fun x1 => ?_)
    refine v_if_le hc 58 dX1_emitDownTo_4 rfl ?_ ?_
    · exact v_vret hc hq (Nat.le_of_ble_eq_true rfl) (Nat.le_of_ble_eq_true rfl) rfl dX1_emitDownTo_58
    · refine v_aload_n (i := 0) hc 0 rfl dX1_emitDownTo_7 rfl ?_
      refine v_cI hc (m_V' (As := []) (b := v0) (rest := []) 0 hc hr (fun l D tys base => ct1_lastWaiting l D tys base h v0) (fun x hx => ob1_lastWaiting hx) rfl s1_lastWaiting w_759 rfl ⟨Nat.le_of_ble_eq_true rfl, Nat.le_of_ble_eq_true rfl⟩ ⟨Nat.le_of_ble_eq_true rfl, Nat.le_of_ble_eq_true rfl⟩ (Nat.le_of_ble_eq_true rfl) dX1_emitDownTo_8) fun x8 => ?_
      refine v_cI hc (m_S' (As := [.int x8]) (rest := []) 1 hc hr (fun l D tys base => ct1_closeness l D tys base h x8) s1_closeness w_752 rfl ⟨Nat.le_of_ble_eq_true rfl, Nat.le_of_ble_eq_true rfl⟩ ⟨Nat.le_of_ble_eq_true rfl, Nat.le_of_ble_eq_true rfl⟩ (Nat.le_of_ble_eq_true rfl) dX1_emitDownTo_11) fun x11 => ?_
      refine v_iload_n (i := 1) hc 1 rfl dX1_emitDownTo_14 rfl ?_
      refine v_icmp_lt hc 58 dX1_emitDownTo_15 rfl ?_ ?_
      · exact v_vret hc hq (Nat.le_of_ble_eq_true rfl) (Nat.le_of_ble_eq_true rfl) rfl dX1_emitDownTo_58
      · refine v_aload_n (i := 0) hc 0 rfl dX1_emitDownTo_18 rfl ?_
        refine v_cI hc (m_V' (As := []) (b := v0) (rest := []) 0 hc hr (fun l D tys base => ct1_lastWaiting l D tys base h v0) (fun x hx => ob1_lastWaiting hx) rfl s1_lastWaiting w_759 rfl ⟨Nat.le_of_ble_eq_true rfl, Nat.le_of_ble_eq_true rfl⟩ ⟨Nat.le_of_ble_eq_true rfl, Nat.le_of_ble_eq_true rfl⟩ (Nat.le_of_ble_eq_true rfl) dX1_emitDownTo_19) fun x19 => ?_
        refine v_bipush (x := (20 : Int32)) hc dX1_emitDownTo_22 zb_20 ?_
        refine v_icmp_ne hc 37 dX1_emitDownTo_24 rfl ?_ ?_
        · refine v_aload_n (i := 0) hc 0 rfl dX1_emitDownTo_37 rfl ?_
          refine v_aload_n (i := 0) hc 0 rfl dX1_emitDownTo_38 rfl ?_
          refine v_cI hc (m_V' (As := []) (b := v0) (rest := [.ref v0]) 0 hc hr (fun l D tys base => ct1_lastWaiting l D tys base h v0) (fun x hx => ob1_lastWaiting hx) rfl s1_lastWaiting w_759 rfl ⟨Nat.le_of_ble_eq_true rfl, Nat.le_of_ble_eq_true rfl⟩ ⟨Nat.le_of_ble_eq_true rfl, Nat.le_of_ble_eq_true rfl⟩ (Nat.le_of_ble_eq_true rfl) dX1_emitDownTo_39) fun x39 => ?_
          refine v_cV hc (m_V' (As := [.int x39]) (b := v0) (rest := []) 1 hc hr (fun l D tys base => ct1_emit l D tys base h v0 x39) (fun x hx => ob1_emit hx) rfl s1_emit w_728 rfl ⟨Nat.le_of_ble_eq_true rfl, Nat.le_of_ble_eq_true rfl⟩ ⟨Nat.le_of_ble_eq_true rfl, Nat.le_of_ble_eq_true rfl⟩ (Nat.le_of_ble_eq_true rfl) dX1_emitDownTo_42) fun x42 => ?_
          refine v_aload_n (i := 0) hc 0 rfl dX1_emitDownTo_45 rfl ?_
          refine v_dup hc dX1_emitDownTo_46 rfl ?_
          refine v_getV hc kX1 10 (by decide) w_269 rfl dX1_emitDownTo_47 (gI rfl fun x47 => ?_)
          refine v_iconst (x := (1 : Int32)) hc dX1_emitDownTo_50 zi_1 ?_
          refine v_isub hc dX1_emitDownTo_51 ?_
          refine v_put hc kX1 10 (by decide) w_269 rfl rfl dX1_emitDownTo_52 ⟨rfl, rfl⟩ fun h52 => ?_
          refine v_goto hc 0 dX1_emitDownTo_55 rfl ?_
          refine v_sub (L' := [(0, .ref v0), (1, .int v1)]) [0, 1] rfl ?_
          exact ih h52
        · refine v_aload_n (i := 0) hc 0 rfl dX1_emitDownTo_27 rfl ?_
          refine v_dup hc dX1_emitDownTo_28 rfl ?_
          refine v_getV hc kX1 11 (by decide) w_270 rfl dX1_emitDownTo_29 (gI rfl fun x29 => ?_)
          refine v_iconst (x := (1 : Int32)) hc dX1_emitDownTo_32 zi_1 ?_
          refine v_isub hc dX1_emitDownTo_33 ?_
          refine v_put hc kX1 11 (by decide) w_270 rfl rfl dX1_emitDownTo_34 ⟨rfl, rfl⟩ fun h34 => ?_
          refine v_aload_n (i := 0) hc 0 rfl dX1_emitDownTo_37 rfl ?_
          refine v_aload_n (i := 0) hc 0 rfl dX1_emitDownTo_38 rfl ?_
          refine v_cI hc (m_V' (As := []) (b := v0) (rest := [.ref v0]) 0 hc hr (fun l D tys base => ct1_lastWaiting l D tys base h34 v0) (fun x hx => ob1_lastWaiting hx) rfl s1_lastWaiting w_759 rfl ⟨Nat.le_of_ble_eq_true rfl, Nat.le_of_ble_eq_true rfl⟩ ⟨Nat.le_of_ble_eq_true rfl, Nat.le_of_ble_eq_true rfl⟩ (Nat.le_of_ble_eq_true rfl) dX1_emitDownTo_39) fun x39 => ?_
          refine v_cV hc (m_V' (As := [.int x39]) (b := v0) (rest := []) 1 hc hr (fun l D tys base => ct1_emit l D tys base h34 v0 x39) (fun x hx => ob1_emit hx) rfl s1_emit w_728 rfl ⟨Nat.le_of_ble_eq_true rfl, Nat.le_of_ble_eq_true rfl⟩ ⟨Nat.le_of_ble_eq_true rfl, Nat.le_of_ble_eq_true rfl⟩ (Nat.le_of_ble_eq_true rfl) dX1_emitDownTo_42) fun x42 => ?_
          refine v_aload_n (i := 0) hc 0 rfl dX1_emitDownTo_45 rfl ?_
          refine v_dup hc dX1_emitDownTo_46 rfl ?_
          refine v_getV hc kX1 10 (by decide) w_269 rfl dX1_emitDownTo_47 (gI rfl fun x47 => ?_)
          refine v_iconst (x := (1 : Int32)) hc dX1_emitDownTo_50 zi_1 ?_
          refine v_isub hc dX1_emitDownTo_51 ?_
          refine v_put hc kX1 10 (by decide) w_269 rfl rfl dX1_emitDownTo_52 ⟨rfl, rfl⟩ fun h52 => ?_
          refine v_goto hc 0 dX1_emitDownTo_55 rfl ?_
          refine v_sub (L' := [(0, .ref v0), (1, .int v1)]) [0, 1] rfl ?_
          exact ih h52
def f1_emitDownTo (h : AH) (this : Nat) (p0 : Int32) : Option (AH) := (hObj 1 h this).bind fun _ => f1_emitDownTo_0 this p0 FU h
theorem ob1_emitDownTo {h : AH} {this : Nat} {p0 : Int32} {x : AH} (e : f1_emitDownTo h this p0 = some x) : ∃ fs, hObj 1 h this = some fs := by
  unfold f1_emitDownTo at e
  obtain ⟨fs, h1, -⟩ := bd e
  exact ⟨fs, h1⟩
set_option maxRecDepth 100000 in
theorem ct1_emitDownTo (l : Launch) (D : va_G) (tys : Tys) (base : Nat) (h : AH) (this : Nat) (p0 : Int32) : Ct l D tys base yX1_emitDownTo cX1_emitDownTo 2 none 2 42 0 0 [.ref this, .int p0] h (wV) (f1_emitDownTo h this p0) := by
  refine Ct.intro (own := RX1) (L := [(0, .ref this), (1, .int p0)]) rfl (by decide) rfl (Nat.le_of_ble_eq_true rfl) fun κ hc hr hq hi hL => ?_
  have hn : ∀ i, i < 2 → i < κ.2.2.2.2.1 := fun i q => hL ▸ q
  unfold f1_emitDownTo
  refine v_obj ?_
  refine v_sub (L' := [(0, .ref this), (1, .int p0)]) [0, 1] rfl ?_
  exact vl1_emitDownTo_0 hc hr hq hL this p0 FU h
theorem s1_emitDownTo : YV yX1_emitDownTo RX1 cX1_emitDownTo 2 none 1 := ⟨w_758, w_757, w_21, w_114, rfl, by decide +kernel, by decide +kernel, by decide +kernel⟩
def f1_join (h : AH) (this : Nat) (p0 : Int32) : Option (AH) := (hObj 1 h this).bind fun _ => (f1_closeness h p0).bind fun x2 => (f1_emitDownTo h this x2).bind fun x5 => (f1_putOff x5 this p0).bind fun x10 => some x10
theorem ob1_join {h : AH} {this : Nat} {p0 : Int32} {x : AH} (e : f1_join h this p0 = some x) : ∃ fs, hObj 1 h this = some fs := by
  unfold f1_join at e
  obtain ⟨fs, h1, -⟩ := bd e
  exact ⟨fs, h1⟩
set_option maxRecDepth 100000 in
theorem ct1_join (l : Launch) (D : va_G) (tys : Tys) (base : Nat) (h : AH) (this : Nat) (p0 : Int32) : Ct l D tys base yX1_join cX1_join 2 none 3 63 0 0 [.ref this, .int p0] h (wV) (f1_join h this p0) := by
  refine Ct.intro (own := RX1) (L := [(0, .ref this), (1, .int p0)]) rfl (by decide) rfl (Nat.le_of_ble_eq_true rfl) fun κ hc hr hq hi hL => ?_
  have hn : ∀ i, i < 2 → i < κ.2.2.2.2.1 := fun i q => hL ▸ q
  unfold f1_join
  refine v_obj ?_
  refine v_aload_n (i := 0) hc 0 rfl dX1_join_0 rfl ?_
  refine v_iload_n (i := 1) hc 1 rfl dX1_join_1 rfl ?_
  refine v_cI hc (m_S' (As := [.int p0]) (rest := [.ref this]) 1 hc hr (fun l D tys base => ct1_closeness l D tys base h p0) s1_closeness w_752 rfl ⟨Nat.le_of_ble_eq_true rfl, Nat.le_of_ble_eq_true rfl⟩ ⟨Nat.le_of_ble_eq_true rfl, Nat.le_of_ble_eq_true rfl⟩ (Nat.le_of_ble_eq_true rfl) dX1_join_2) fun x2 => ?_
  refine v_cV hc (m_V' (As := [.int x2]) (b := this) (rest := []) 1 hc hr (fun l D tys base => ct1_emitDownTo l D tys base h this x2) (fun x hx => ob1_emitDownTo hx) rfl s1_emitDownTo w_755 rfl ⟨Nat.le_of_ble_eq_true rfl, Nat.le_of_ble_eq_true rfl⟩ ⟨Nat.le_of_ble_eq_true rfl, Nat.le_of_ble_eq_true rfl⟩ (Nat.le_of_ble_eq_true rfl) dX1_join_5) fun x5 => ?_
  refine v_aload_n (i := 0) hc 0 rfl dX1_join_8 rfl ?_
  refine v_iload_n (i := 1) hc 1 rfl dX1_join_9 rfl ?_
  refine v_cV hc (m_V' (As := [.int p0]) (b := this) (rest := []) 1 hc hr (fun l D tys base => ct1_putOff l D tys base x5 this p0) (fun x hx => ob1_putOff hx) rfl s1_putOff w_740 rfl ⟨Nat.le_of_ble_eq_true rfl, Nat.le_of_ble_eq_true rfl⟩ ⟨Nat.le_of_ble_eq_true rfl, Nat.le_of_ble_eq_true rfl⟩ (Nat.le_of_ble_eq_true rfl) dX1_join_10) fun x10 => ?_
  exact v_vret hc hq (Nat.le_of_ble_eq_true rfl) (Nat.le_of_ble_eq_true rfl) rfl dX1_join_13
theorem s1_join : YV yX1_join RX1 cX1_join 2 none 1 := ⟨w_751, w_750, w_20, w_114, rfl, by decide +kernel, by decide +kernel, by decide +kernel⟩
def f1_dropBracket (h : AH) (this : Nat) : Option (AH) := (hObj 1 h this).bind fun _ => (fI 1 10 h this).bind fun x1 => (if x1 ≤ 0 then some h else (fI 1 10 h this).bind fun x9 => (fS 1 10 h this (.int (x9 - (1 : Int32)))).bind fun h14 => (fI 1 11 h14 this).bind fun x19 => (fS 1 11 h14 this (.int (x19 - (1 : Int32)))).bind fun h24 => (fI 1 12 h24 this).bind fun x29 => (fS 1 12 h24 this (.int (x29 - (1 : Int32)))).bind fun h34 => some h34)
theorem ob1_dropBracket {h : AH} {this : Nat} {x : AH} (e : f1_dropBracket h this = some x) : ∃ fs, hObj 1 h this = some fs := by
  unfold f1_dropBracket at e
  obtain ⟨fs, h1, -⟩ := bd e
  exact ⟨fs, h1⟩
set_option maxRecDepth 100000 in
theorem ct1_dropBracket (l : Launch) (D : va_G) (tys : Tys) (base : Nat) (h : AH) (this : Nat) : Ct l D tys base yX1_dropBracket cX1_dropBracket 1 none 0 0 0 0 [.ref this] h (wV) (f1_dropBracket h this) := by
  refine Ct.intro (own := RX1) (L := [(0, .ref this)]) rfl (by decide) rfl (Nat.le_of_ble_eq_true rfl) fun κ hc hr hq hi hL => ?_
  have hn : ∀ i, i < 1 → i < κ.2.2.2.2.1 := fun i q => hL ▸ q
  unfold f1_dropBracket
  refine v_obj ?_
  refine v_aload_n (i := 0) hc 0 rfl dX1_dropBracket_0 rfl ?_
  refine v_getV hc kX1 10 (by decide) w_269 rfl dX1_dropBracket_1 (gI rfl fun x1 => ?_)
  refine v_if_le hc 37 dX1_dropBracket_4 rfl ?_ ?_
  · exact v_vret hc hq (Nat.le_of_ble_eq_true rfl) (Nat.le_of_ble_eq_true rfl) rfl dX1_dropBracket_37
  · refine v_aload_n (i := 0) hc 0 rfl dX1_dropBracket_7 rfl ?_
    refine v_dup hc dX1_dropBracket_8 rfl ?_
    refine v_getV hc kX1 10 (by decide) w_269 rfl dX1_dropBracket_9 (gI rfl fun x9 => ?_)
    refine v_iconst (x := (1 : Int32)) hc dX1_dropBracket_12 zi_1 ?_
    refine v_isub hc dX1_dropBracket_13 ?_
    refine v_put hc kX1 10 (by decide) w_269 rfl rfl dX1_dropBracket_14 ⟨rfl, rfl⟩ fun h14 => ?_
    refine v_aload_n (i := 0) hc 0 rfl dX1_dropBracket_17 rfl ?_
    refine v_dup hc dX1_dropBracket_18 rfl ?_
    refine v_getV hc kX1 11 (by decide) w_270 rfl dX1_dropBracket_19 (gI rfl fun x19 => ?_)
    refine v_iconst (x := (1 : Int32)) hc dX1_dropBracket_22 zi_1 ?_
    refine v_isub hc dX1_dropBracket_23 ?_
    refine v_put hc kX1 11 (by decide) w_270 rfl rfl dX1_dropBracket_24 ⟨rfl, rfl⟩ fun h24 => ?_
    refine v_aload_n (i := 0) hc 0 rfl dX1_dropBracket_27 rfl ?_
    refine v_dup hc dX1_dropBracket_28 rfl ?_
    refine v_getV hc kX1 12 (by decide) w_271 rfl dX1_dropBracket_29 (gI rfl fun x29 => ?_)
    refine v_iconst (x := (1 : Int32)) hc dX1_dropBracket_32 zi_1 ?_
    refine v_isub hc dX1_dropBracket_33 ?_
    refine v_put hc kX1 12 (by decide) w_271 rfl rfl dX1_dropBracket_34 ⟨rfl, rfl⟩ fun h34 => ?_
    exact v_vret hc hq (Nat.le_of_ble_eq_true rfl) (Nat.le_of_ble_eq_true rfl) rfl dX1_dropBracket_37
theorem s1_dropBracket : YV yX1_dropBracket RX1 cX1_dropBracket 1 none 0 := ⟨w_770, w_769, w_24, w_114, rfl, by decide +kernel, by decide +kernel, by decide +kernel⟩
def f1_takeBehindClause_43 (h : AH) (v0 : Nat) (v1 : Nat) : Option (AH) := (f1_emitDownTo h v0 (1 : Int32)).bind fun x45 => (fI 1 4 x45 v0).bind fun x50 => (f1_emit x45 v0 x50).bind fun x53 => (fI 6 4 x53 v1).bind fun x58 => (if x58 = (33 : Int32) then (fS 1 2 x53 v0 (.int (7 : Int32))).bind fun h72 => some h72 else (fS 1 2 x53 v0 (.int (0 : Int32))).bind fun h72 => some h72)
set_option maxRecDepth 100000 in
theorem vl1_takeBehindClause_43 {κ : Kx} (hc : CX κ RX1 cX1_takeBehindClause) (hr : RX κ ({ frames := 3, cells := 0, slots := 0, locals := 63 } : Room)) (hq : QX κ none 0 0) (hL : 2 = κ.2.2.2.2.1) (h : AH) (v0 : Nat) (v1 : Nat) : V κ (wV) 0 0 43 [(0, .ref v0), (1, .ref v1)] [] h (f1_takeBehindClause_43 h v0 v1) := by
  have hn : ∀ i, i < 2 → i < κ.2.2.2.2.1 := fun i q => hL ▸ q
  unfold f1_takeBehindClause_43
  refine v_aload_n (i := 0) hc 0 rfl dX1_takeBehindClause_43 rfl ?_
  refine v_iconst (x := (1 : Int32)) hc dX1_takeBehindClause_44 zi_1 ?_
  refine v_cV hc (m_V' (As := [.int (1 : Int32)]) (b := v0) (rest := []) 1 hc hr (fun l D tys base => ct1_emitDownTo l D tys base h v0 (1 : Int32)) (fun x hx => ob1_emitDownTo hx) rfl s1_emitDownTo w_755 rfl ⟨Nat.le_of_ble_eq_true rfl, Nat.le_of_ble_eq_true rfl⟩ ⟨Nat.le_of_ble_eq_true rfl, Nat.le_of_ble_eq_true rfl⟩ (Nat.le_of_ble_eq_true rfl) dX1_takeBehindClause_45) fun x45 => ?_
  refine v_aload_n (i := 0) hc 0 rfl dX1_takeBehindClause_48 rfl ?_
  refine v_aload_n (i := 0) hc 0 rfl dX1_takeBehindClause_49 rfl ?_
  refine v_getV hc kX1 4 (by decide) w_263 rfl dX1_takeBehindClause_50 (gI rfl fun x50 => ?_)
  refine v_cV hc (m_V' (As := [.int x50]) (b := v0) (rest := []) 1 hc hr (fun l D tys base => ct1_emit l D tys base x45 v0 x50) (fun x hx => ob1_emit hx) rfl s1_emit w_728 rfl ⟨Nat.le_of_ble_eq_true rfl, Nat.le_of_ble_eq_true rfl⟩ ⟨Nat.le_of_ble_eq_true rfl, Nat.le_of_ble_eq_true rfl⟩ (Nat.le_of_ble_eq_true rfl) dX1_takeBehindClause_53) fun x53 => ?_
  refine v_aload_n (i := 0) hc 0 rfl dX1_takeBehindClause_56 rfl ?_
  refine v_aload_n (i := 1) hc 1 rfl dX1_takeBehindClause_57 rfl ?_
  refine v_getVN hc kX6 4 (by decide) w_233 rfl dX1_takeBehindClause_58 (gI rfl fun x58 => ?_)
  refine v_bipush (x := (33 : Int32)) hc dX1_takeBehindClause_61 zb_33 ?_
  refine v_icmp_ne hc 71 dX1_takeBehindClause_63 rfl ?_ ?_
  · refine v_iconst (x := (0 : Int32)) hc dX1_takeBehindClause_71 zi_0 ?_
    refine v_put hc kX1 2 (by decide) w_261 rfl rfl dX1_takeBehindClause_72 ⟨rfl, rfl⟩ fun h72 => ?_
    exact v_vret hc hq (Nat.le_of_ble_eq_true rfl) (Nat.le_of_ble_eq_true rfl) rfl dX1_takeBehindClause_75
  · refine v_bipush (x := (7 : Int32)) hc dX1_takeBehindClause_66 zb_7 ?_
    refine v_goto hc 72 dX1_takeBehindClause_68 rfl ?_
    refine v_put hc kX1 2 (by decide) w_261 rfl rfl dX1_takeBehindClause_72 ⟨rfl, rfl⟩ fun h72 => ?_
    exact v_vret hc hq (Nat.le_of_ble_eq_true rfl) (Nat.le_of_ble_eq_true rfl) rfl dX1_takeBehindClause_75
def f1_takeBehindClause_25 (h : AH) (v0 : Nat) (v1 : Nat) : Option (AH) := (fI 1 4 h v0).bind fun x26 => (if x26 = (10 : Int32) then f1_takeBehindClause_43 h v0 v1 else (fI 1 4 h v0).bind fun x35 => (if x35 = (17 : Int32) then f1_takeBehindClause_43 h v0 v1 else (fI 6 4 h v1).bind fun x58 => (if x58 = (33 : Int32) then (fS 1 2 h v0 (.int (7 : Int32))).bind fun h72 => some h72 else (fS 1 2 h v0 (.int (0 : Int32))).bind fun h72 => some h72)))
set_option maxRecDepth 100000 in
theorem vl1_takeBehindClause_25 {κ : Kx} (hc : CX κ RX1 cX1_takeBehindClause) (hr : RX κ ({ frames := 3, cells := 0, slots := 0, locals := 63 } : Room)) (hq : QX κ none 0 0) (hL : 2 = κ.2.2.2.2.1) (h : AH) (v0 : Nat) (v1 : Nat) : V κ (wV) 0 0 25 [(0, .ref v0), (1, .ref v1)] [] h (f1_takeBehindClause_25 h v0 v1) := by
  have hn : ∀ i, i < 2 → i < κ.2.2.2.2.1 := fun i q => hL ▸ q
  unfold f1_takeBehindClause_25
  refine v_aload_n (i := 0) hc 0 rfl dX1_takeBehindClause_25 rfl ?_
  refine v_getV hc kX1 4 (by decide) w_263 rfl dX1_takeBehindClause_26 (gI rfl fun x26 => ?_)
  refine v_bipush (x := (10 : Int32)) hc dX1_takeBehindClause_29 zb_10 ?_
  refine v_icmp_eq hc 43 dX1_takeBehindClause_31 rfl ?_ ?_
  · refine v_sub (L' := [(0, .ref v0), (1, .ref v1)]) [0, 1] rfl ?_
    exact vl1_takeBehindClause_43 hc hr hq hL h v0 v1
  · refine v_aload_n (i := 0) hc 0 rfl dX1_takeBehindClause_34 rfl ?_
    refine v_getV hc kX1 4 (by decide) w_263 rfl dX1_takeBehindClause_35 (gI rfl fun x35 => ?_)
    refine v_bipush (x := (17 : Int32)) hc dX1_takeBehindClause_38 zb_17 ?_
    refine v_icmp_ne hc 56 dX1_takeBehindClause_40 rfl ?_ ?_
    · refine v_aload_n (i := 0) hc 0 rfl dX1_takeBehindClause_56 rfl ?_
      refine v_aload_n (i := 1) hc 1 rfl dX1_takeBehindClause_57 rfl ?_
      refine v_getVN hc kX6 4 (by decide) w_233 rfl dX1_takeBehindClause_58 (gI rfl fun x58 => ?_)
      refine v_bipush (x := (33 : Int32)) hc dX1_takeBehindClause_61 zb_33 ?_
      refine v_icmp_ne hc 71 dX1_takeBehindClause_63 rfl ?_ ?_
      · refine v_iconst (x := (0 : Int32)) hc dX1_takeBehindClause_71 zi_0 ?_
        refine v_put hc kX1 2 (by decide) w_261 rfl rfl dX1_takeBehindClause_72 ⟨rfl, rfl⟩ fun h72 => ?_
        exact v_vret hc hq (Nat.le_of_ble_eq_true rfl) (Nat.le_of_ble_eq_true rfl) rfl dX1_takeBehindClause_75
      · refine v_bipush (x := (7 : Int32)) hc dX1_takeBehindClause_66 zb_7 ?_
        refine v_goto hc 72 dX1_takeBehindClause_68 rfl ?_
        refine v_put hc kX1 2 (by decide) w_261 rfl rfl dX1_takeBehindClause_72 ⟨rfl, rfl⟩ fun h72 => ?_
        exact v_vret hc hq (Nat.le_of_ble_eq_true rfl) (Nat.le_of_ble_eq_true rfl) rfl dX1_takeBehindClause_75
    · refine v_sub (L' := [(0, .ref v0), (1, .ref v1)]) [0, 1] rfl ?_
      exact vl1_takeBehindClause_43 hc hr hq hL h v0 v1
def f1_takeBehindClause (h : AH) (this : Nat) (p0 : Nat) : Option (AH) := (hObj 1 h this).bind fun _ => (fI 6 4 h p0).bind fun x1 => (if x1 = (32 : Int32) then f1_takeBehindClause_25 h this p0 else (fI 6 4 h p0).bind fun x10 => (if x10 = (33 : Int32) then f1_takeBehindClause_25 h this p0 else (f1_fail h this p0 (0 : Int32)).bind fun x21 => some x21))
theorem ob1_takeBehindClause {h : AH} {this : Nat} {p0 : Nat} {x : AH} (e : f1_takeBehindClause h this p0 = some x) : ∃ fs, hObj 1 h this = some fs := by
  unfold f1_takeBehindClause at e
  obtain ⟨fs, h1, -⟩ := bd e
  exact ⟨fs, h1⟩
set_option maxRecDepth 100000 in
theorem ct1_takeBehindClause (l : Launch) (D : va_G) (tys : Tys) (base : Nat) (h : AH) (this : Nat) (p0 : Nat) : Ct l D tys base yX1_takeBehindClause cX1_takeBehindClause 2 none 3 63 0 0 [.ref this, .ref p0] h (wV) (f1_takeBehindClause h this p0) := by
  refine Ct.intro (own := RX1) (L := [(0, .ref this), (1, .ref p0)]) rfl (by decide) rfl (Nat.le_of_ble_eq_true rfl) fun κ hc hr hq hi hL => ?_
  have hn : ∀ i, i < 2 → i < κ.2.2.2.2.1 := fun i q => hL ▸ q
  unfold f1_takeBehindClause
  refine v_obj ?_
  refine v_aload_n (i := 1) hc 1 rfl dX1_takeBehindClause_0 rfl ?_
  refine v_getVN hc kX6 4 (by decide) w_233 rfl dX1_takeBehindClause_1 (gI rfl fun x1 => ?_)
  refine v_bipush (x := (32 : Int32)) hc dX1_takeBehindClause_4 zb_32 ?_
  refine v_icmp_eq hc 25 dX1_takeBehindClause_6 rfl ?_ ?_
  · refine v_sub (L' := [(0, .ref this), (1, .ref p0)]) [0, 1] rfl ?_
    exact vl1_takeBehindClause_25 hc hr hq hL h this p0
  · refine v_aload_n (i := 1) hc 1 rfl dX1_takeBehindClause_9 rfl ?_
    refine v_getVN hc kX6 4 (by decide) w_233 rfl dX1_takeBehindClause_10 (gI rfl fun x10 => ?_)
    refine v_bipush (x := (33 : Int32)) hc dX1_takeBehindClause_13 zb_33 ?_
    refine v_icmp_eq hc 25 dX1_takeBehindClause_15 rfl ?_ ?_
    · refine v_sub (L' := [(0, .ref this), (1, .ref p0)]) [0, 1] rfl ?_
      exact vl1_takeBehindClause_25 hc hr hq hL h this p0
    · refine v_aload_n (i := 0) hc 0 rfl dX1_takeBehindClause_18 rfl ?_
      refine v_aload_n (i := 1) hc 1 rfl dX1_takeBehindClause_19 rfl ?_
      refine v_iconst (x := (0 : Int32)) hc dX1_takeBehindClause_20 zi_0 ?_
      refine v_cV hc (m_V' (As := [.ref p0, .int (0 : Int32)]) (b := this) (rest := []) 2 hc hr (fun l D tys base => ct1_fail l D tys base h this p0 (0 : Int32)) (fun x hx => ob1_fail hx) rfl s1_fail w_697 rfl ⟨Nat.le_of_ble_eq_true rfl, Nat.le_of_ble_eq_true rfl⟩ ⟨Nat.le_of_ble_eq_true rfl, Nat.le_of_ble_eq_true rfl⟩ (Nat.le_of_ble_eq_true rfl) dX1_takeBehindClause_21) fun x21 => ?_
      exact v_vret hc hq (Nat.le_of_ble_eq_true rfl) (Nat.le_of_ble_eq_true rfl) rfl dX1_takeBehindClause_24
theorem s1_takeBehindClause : YV yX1_takeBehindClause RX1 cX1_takeBehindClause 2 none 1 := ⟨w_774, w_773, w_25, w_114, rfl, by decide +kernel, by decide +kernel, by decide +kernel⟩
def f1_takeBehindFact (h : AH) (this : Nat) (p0 : Nat) : Option (AH) := (hObj 1 h this).bind fun _ => (fI 6 4 h p0).bind fun x1 => (if x1 = (19 : Int32) then (fI 6 4 h p0).bind fun x20 => (f1_join h this x20).bind fun x23 => (fS 1 2 x23 this (.int (4 : Int32))).bind fun h28 => some h28 else (fI 6 4 h p0).bind fun x10 => (if x10 = (18 : Int32) then (fI 6 4 h p0).bind fun x20 => (f1_join h this x20).bind fun x23 => (fS 1 2 x23 this (.int (4 : Int32))).bind fun h28 => some h28 else (fI 6 4 h p0).bind fun x35 => (if x35 = (31 : Int32) then (fI 1 12 h this).bind fun x44 => (if x44 ≤ 0 then (fI 1 12 h this).bind fun x69 => (if x69 ≤ 0 then (f1_takeBehindClause h this p0).bind fun x86 => some x86 else (f1_fail h this p0 (0 : Int32)).bind fun x78 => some x78) else (f1_emitDownTo h this (1 : Int32)).bind fun x52 => (f1_dropBracket x52 this).bind fun x56 => (fS 1 2 x56 this (.int (6 : Int32))).bind fun h62 => some h62) else (fI 1 12 h this).bind fun x69 => (if x69 ≤ 0 then (f1_takeBehindClause h this p0).bind fun x86 => some x86 else (f1_fail h this p0 (0 : Int32)).bind fun x78 => some x78))))
theorem ob1_takeBehindFact {h : AH} {this : Nat} {p0 : Nat} {x : AH} (e : f1_takeBehindFact h this p0 = some x) : ∃ fs, hObj 1 h this = some fs := by
  unfold f1_takeBehindFact at e
  obtain ⟨fs, h1, -⟩ := bd e
  exact ⟨fs, h1⟩
set_option maxRecDepth 100000 in
theorem ct1_takeBehindFact (l : Launch) (D : va_G) (tys : Tys) (base : Nat) (h : AH) (this : Nat) (p0 : Nat) : Ct l D tys base yX1_takeBehindFact cX1_takeBehindFact 2 none 4 84 0 0 [.ref this, .ref p0] h (wV) (f1_takeBehindFact h this p0) := by
  refine Ct.intro (own := RX1) (L := [(0, .ref this), (1, .ref p0)]) rfl (by decide) rfl (Nat.le_of_ble_eq_true rfl) fun κ hc hr hq hi hL => ?_
  have hn : ∀ i, i < 2 → i < κ.2.2.2.2.1 := fun i q => hL ▸ q
  unfold f1_takeBehindFact
  refine v_obj ?_
  refine v_aload_n (i := 1) hc 1 rfl dX1_takeBehindFact_0 rfl ?_
  refine v_getVN hc kX6 4 (by decide) w_233 rfl dX1_takeBehindFact_1 (gI rfl fun x1 => ?_)
  refine v_bipush (x := (19 : Int32)) hc dX1_takeBehindFact_4 zb_19 ?_
  refine v_icmp_eq hc 18 dX1_takeBehindFact_6 rfl ?_ ?_
  · refine v_aload_n (i := 0) hc 0 rfl dX1_takeBehindFact_18 rfl ?_
    refine v_aload_n (i := 1) hc 1 rfl dX1_takeBehindFact_19 rfl ?_
    refine v_getVN hc kX6 4 (by decide) w_233 rfl dX1_takeBehindFact_20 (gI rfl fun x20 => ?_)
    refine v_cV hc (m_V' (As := [.int x20]) (b := this) (rest := []) 1 hc hr (fun l D tys base => ct1_join l D tys base h this x20) (fun x hx => ob1_join hx) rfl s1_join w_748 rfl ⟨Nat.le_of_ble_eq_true rfl, Nat.le_of_ble_eq_true rfl⟩ ⟨Nat.le_of_ble_eq_true rfl, Nat.le_of_ble_eq_true rfl⟩ (Nat.le_of_ble_eq_true rfl) dX1_takeBehindFact_23) fun x23 => ?_
    refine v_aload_n (i := 0) hc 0 rfl dX1_takeBehindFact_26 rfl ?_
    refine v_iconst (x := (4 : Int32)) hc dX1_takeBehindFact_27 zi_4 ?_
    refine v_put hc kX1 2 (by decide) w_261 rfl rfl dX1_takeBehindFact_28 ⟨rfl, rfl⟩ fun h28 => ?_
    refine v_goto hc 89 dX1_takeBehindFact_31 rfl ?_
    exact v_vret hc hq (Nat.le_of_ble_eq_true rfl) (Nat.le_of_ble_eq_true rfl) rfl dX1_takeBehindFact_89
  · refine v_aload_n (i := 1) hc 1 rfl dX1_takeBehindFact_9 rfl ?_
    refine v_getVN hc kX6 4 (by decide) w_233 rfl dX1_takeBehindFact_10 (gI rfl fun x10 => ?_)
    refine v_bipush (x := (18 : Int32)) hc dX1_takeBehindFact_13 zb_18 ?_
    refine v_icmp_ne hc 34 dX1_takeBehindFact_15 rfl ?_ ?_
    · refine v_aload_n (i := 1) hc 1 rfl dX1_takeBehindFact_34 rfl ?_
      refine v_getVN hc kX6 4 (by decide) w_233 rfl dX1_takeBehindFact_35 (gI rfl fun x35 => ?_)
      refine v_bipush (x := (31 : Int32)) hc dX1_takeBehindFact_38 zb_31 ?_
      refine v_icmp_ne hc 68 dX1_takeBehindFact_40 rfl ?_ ?_
      · refine v_aload_n (i := 0) hc 0 rfl dX1_takeBehindFact_68 rfl ?_
        refine v_getV hc kX1 12 (by decide) w_271 rfl dX1_takeBehindFact_69 (gI rfl fun x69 => ?_)
        refine v_if_le hc 84 dX1_takeBehindFact_72 rfl ?_ ?_
        · refine v_aload_n (i := 0) hc 0 rfl dX1_takeBehindFact_84 rfl ?_
          refine v_aload_n (i := 1) hc 1 rfl dX1_takeBehindFact_85 rfl ?_
          refine v_cV hc (m_V' (As := [.ref p0]) (b := this) (rest := []) 1 hc hr (fun l D tys base => ct1_takeBehindClause l D tys base h this p0) (fun x hx => ob1_takeBehindClause hx) rfl s1_takeBehindClause w_771 rfl ⟨Nat.le_of_ble_eq_true rfl, Nat.le_of_ble_eq_true rfl⟩ ⟨Nat.le_of_ble_eq_true rfl, Nat.le_of_ble_eq_true rfl⟩ (Nat.le_of_ble_eq_true rfl) dX1_takeBehindFact_86) fun x86 => ?_
          exact v_vret hc hq (Nat.le_of_ble_eq_true rfl) (Nat.le_of_ble_eq_true rfl) rfl dX1_takeBehindFact_89
        · refine v_aload_n (i := 0) hc 0 rfl dX1_takeBehindFact_75 rfl ?_
          refine v_aload_n (i := 1) hc 1 rfl dX1_takeBehindFact_76 rfl ?_
          refine v_iconst (x := (0 : Int32)) hc dX1_takeBehindFact_77 zi_0 ?_
          refine v_cV hc (m_V' (As := [.ref p0, .int (0 : Int32)]) (b := this) (rest := []) 2 hc hr (fun l D tys base => ct1_fail l D tys base h this p0 (0 : Int32)) (fun x hx => ob1_fail hx) rfl s1_fail w_697 rfl ⟨Nat.le_of_ble_eq_true rfl, Nat.le_of_ble_eq_true rfl⟩ ⟨Nat.le_of_ble_eq_true rfl, Nat.le_of_ble_eq_true rfl⟩ (Nat.le_of_ble_eq_true rfl) dX1_takeBehindFact_78) fun x78 => ?_
          refine v_goto hc 89 dX1_takeBehindFact_81 rfl ?_
          exact v_vret hc hq (Nat.le_of_ble_eq_true rfl) (Nat.le_of_ble_eq_true rfl) rfl dX1_takeBehindFact_89
      · refine v_aload_n (i := 0) hc 0 rfl dX1_takeBehindFact_43 rfl ?_
        refine v_getV hc kX1 12 (by decide) w_271 rfl dX1_takeBehindFact_44 (gI rfl fun x44 => ?_)
        refine v_if_le hc 68 dX1_takeBehindFact_47 rfl ?_ ?_
        · refine v_aload_n (i := 0) hc 0 rfl dX1_takeBehindFact_68 rfl ?_
          refine v_getV hc kX1 12 (by decide) w_271 rfl dX1_takeBehindFact_69 (gI rfl fun x69 => ?_)
          refine v_if_le hc 84 dX1_takeBehindFact_72 rfl ?_ ?_
          · refine v_aload_n (i := 0) hc 0 rfl dX1_takeBehindFact_84 rfl ?_
            refine v_aload_n (i := 1) hc 1 rfl dX1_takeBehindFact_85 rfl ?_
            refine v_cV hc (m_V' (As := [.ref p0]) (b := this) (rest := []) 1 hc hr (fun l D tys base => ct1_takeBehindClause l D tys base h this p0) (fun x hx => ob1_takeBehindClause hx) rfl s1_takeBehindClause w_771 rfl ⟨Nat.le_of_ble_eq_true rfl, Nat.le_of_ble_eq_true rfl⟩ ⟨Nat.le_of_ble_eq_true rfl, Nat.le_of_ble_eq_true rfl⟩ (Nat.le_of_ble_eq_true rfl) dX1_takeBehindFact_86) fun x86 => ?_
            exact v_vret hc hq (Nat.le_of_ble_eq_true rfl) (Nat.le_of_ble_eq_true rfl) rfl dX1_takeBehindFact_89
          · refine v_aload_n (i := 0) hc 0 rfl dX1_takeBehindFact_75 rfl ?_
            refine v_aload_n (i := 1) hc 1 rfl dX1_takeBehindFact_76 rfl ?_
            refine v_iconst (x := (0 : Int32)) hc dX1_takeBehindFact_77 zi_0 ?_
            refine v_cV hc (m_V' (As := [.ref p0, .int (0 : Int32)]) (b := this) (rest := []) 2 hc hr (fun l D tys base => ct1_fail l D tys base h this p0 (0 : Int32)) (fun x hx => ob1_fail hx) rfl s1_fail w_697 rfl ⟨Nat.le_of_ble_eq_true rfl, Nat.le_of_ble_eq_true rfl⟩ ⟨Nat.le_of_ble_eq_true rfl, Nat.le_of_ble_eq_true rfl⟩ (Nat.le_of_ble_eq_true rfl) dX1_takeBehindFact_78) fun x78 => ?_
            refine v_goto hc 89 dX1_takeBehindFact_81 rfl ?_
            exact v_vret hc hq (Nat.le_of_ble_eq_true rfl) (Nat.le_of_ble_eq_true rfl) rfl dX1_takeBehindFact_89
        · refine v_aload_n (i := 0) hc 0 rfl dX1_takeBehindFact_50 rfl ?_
          refine v_iconst (x := (1 : Int32)) hc dX1_takeBehindFact_51 zi_1 ?_
          refine v_cV hc (m_V' (As := [.int (1 : Int32)]) (b := this) (rest := []) 1 hc hr (fun l D tys base => ct1_emitDownTo l D tys base h this (1 : Int32)) (fun x hx => ob1_emitDownTo hx) rfl s1_emitDownTo w_755 rfl ⟨Nat.le_of_ble_eq_true rfl, Nat.le_of_ble_eq_true rfl⟩ ⟨Nat.le_of_ble_eq_true rfl, Nat.le_of_ble_eq_true rfl⟩ (Nat.le_of_ble_eq_true rfl) dX1_takeBehindFact_52) fun x52 => ?_
          refine v_aload_n (i := 0) hc 0 rfl dX1_takeBehindFact_55 rfl ?_
          refine v_cV hc (m_V' (As := []) (b := this) (rest := []) 0 hc hr (fun l D tys base => ct1_dropBracket l D tys base x52 this) (fun x hx => ob1_dropBracket hx) rfl s1_dropBracket w_767 rfl ⟨Nat.le_of_ble_eq_true rfl, Nat.le_of_ble_eq_true rfl⟩ ⟨Nat.le_of_ble_eq_true rfl, Nat.le_of_ble_eq_true rfl⟩ (Nat.le_of_ble_eq_true rfl) dX1_takeBehindFact_56) fun x56 => ?_
          refine v_aload_n (i := 0) hc 0 rfl dX1_takeBehindFact_59 rfl ?_
          refine v_bipush (x := (6 : Int32)) hc dX1_takeBehindFact_60 zb_6 ?_
          refine v_put hc kX1 2 (by decide) w_261 rfl rfl dX1_takeBehindFact_62 ⟨rfl, rfl⟩ fun h62 => ?_
          refine v_goto hc 89 dX1_takeBehindFact_65 rfl ?_
          exact v_vret hc hq (Nat.le_of_ble_eq_true rfl) (Nat.le_of_ble_eq_true rfl) rfl dX1_takeBehindFact_89
    · refine v_aload_n (i := 0) hc 0 rfl dX1_takeBehindFact_18 rfl ?_
      refine v_aload_n (i := 1) hc 1 rfl dX1_takeBehindFact_19 rfl ?_
      refine v_getVN hc kX6 4 (by decide) w_233 rfl dX1_takeBehindFact_20 (gI rfl fun x20 => ?_)
      refine v_cV hc (m_V' (As := [.int x20]) (b := this) (rest := []) 1 hc hr (fun l D tys base => ct1_join l D tys base h this x20) (fun x hx => ob1_join hx) rfl s1_join w_748 rfl ⟨Nat.le_of_ble_eq_true rfl, Nat.le_of_ble_eq_true rfl⟩ ⟨Nat.le_of_ble_eq_true rfl, Nat.le_of_ble_eq_true rfl⟩ (Nat.le_of_ble_eq_true rfl) dX1_takeBehindFact_23) fun x23 => ?_
      refine v_aload_n (i := 0) hc 0 rfl dX1_takeBehindFact_26 rfl ?_
      refine v_iconst (x := (4 : Int32)) hc dX1_takeBehindFact_27 zi_4 ?_
      refine v_put hc kX1 2 (by decide) w_261 rfl rfl dX1_takeBehindFact_28 ⟨rfl, rfl⟩ fun h28 => ?_
      refine v_goto hc 89 dX1_takeBehindFact_31 rfl ?_
      exact v_vret hc hq (Nat.le_of_ble_eq_true rfl) (Nat.le_of_ble_eq_true rfl) rfl dX1_takeBehindFact_89
theorem s1_takeBehindFact : YV yX1_takeBehindFact RX1 cX1_takeBehindFact 2 none 1 := ⟨w_766, w_765, w_23, w_114, rfl, by decide +kernel, by decide +kernel, by decide +kernel⟩
def f1_takeSign (h : AH) (this : Nat) (p0 : Nat) : Option (AH) := (hObj 1 h this).bind fun _ => (fI 6 4 h p0).bind fun x1 => (f8_isFrom h x1 (22 : Int32) (26 : Int32)).bind fun x8 => (if x8 = true then (fI 1 7 h this).bind fun x24 => (if x24 < (60 : Int32) then (fI 1 7 h this).bind fun x43 => (fS 1 7 h this (.int (x43 + (1 : Int32)))).bind fun h48 => (fI 6 4 h48 p0).bind fun x53 => (f1_join h48 this x53).bind fun x56 => (fS 1 3 x56 this (.int (2 : Int32))).bind fun h61 => (fS 1 2 h61 this (.int (3 : Int32))).bind fun h66 => some h66 else (f1_fail h this p0 (3 : Int32)).bind fun x35 => some x35) else (f1_fail h this p0 (0 : Int32)).bind fun x17 => some x17)
theorem ob1_takeSign {h : AH} {this : Nat} {p0 : Nat} {x : AH} (e : f1_takeSign h this p0 = some x) : ∃ fs, hObj 1 h this = some fs := by
  unfold f1_takeSign at e
  obtain ⟨fs, h1, -⟩ := bd e
  exact ⟨fs, h1⟩
set_option maxRecDepth 100000 in
theorem ct1_takeSign (l : Launch) (D : va_G) (tys : Tys) (base : Nat) (h : AH) (this : Nat) (p0 : Nat) : Ct l D tys base yX1_takeSign cX1_takeSign 2 none 4 84 0 0 [.ref this, .ref p0] h (wV) (f1_takeSign h this p0) := by
  refine Ct.intro (own := RX1) (L := [(0, .ref this), (1, .ref p0)]) rfl (by decide) rfl (Nat.le_of_ble_eq_true rfl) fun κ hc hr hq hi hL => ?_
  have hn : ∀ i, i < 2 → i < κ.2.2.2.2.1 := fun i q => hL ▸ q
  unfold f1_takeSign
  refine v_obj ?_
  refine v_aload_n (i := 1) hc 1 rfl dX1_takeSign_0 rfl ?_
  refine v_getVN hc kX6 4 (by decide) w_233 rfl dX1_takeSign_1 (gI rfl fun x1 => ?_)
  refine v_bipush (x := (22 : Int32)) hc dX1_takeSign_4 zb_22 ?_
  refine v_bipush (x := (26 : Int32)) hc dX1_takeSign_6 zb_26 ?_
  refine v_cB hc (m_SN' (As := [.int x1, .int (22 : Int32), .int (26 : Int32)]) (rest := []) 3 hc hr (fun l D tys base => ct8_isFrom l D tys base h x1 (22 : Int32) (26 : Int32)) s8_isFrom w_724 rfl ⟨Nat.le_of_ble_eq_true rfl, Nat.le_of_ble_eq_true rfl⟩ ⟨Nat.le_of_ble_eq_true rfl, Nat.le_of_ble_eq_true rfl⟩ (Nat.le_of_ble_eq_true rfl) dX1_takeSign_8) fun x8 => ?_
  refine v_ifb_ne hc 23 dX1_takeSign_11 rfl ?_ ?_
  · refine v_aload_n (i := 0) hc 0 rfl dX1_takeSign_23 rfl ?_
    refine v_getV hc kX1 7 (by decide) w_266 rfl dX1_takeSign_24 (gI rfl fun x24 => ?_)
    refine v_bipush (x := (60 : Int32)) hc dX1_takeSign_27 zb_60 ?_
    refine v_icmp_lt hc 41 dX1_takeSign_29 rfl ?_ ?_
    · refine v_aload_n (i := 0) hc 0 rfl dX1_takeSign_41 rfl ?_
      refine v_dup hc dX1_takeSign_42 rfl ?_
      refine v_getV hc kX1 7 (by decide) w_266 rfl dX1_takeSign_43 (gI rfl fun x43 => ?_)
      refine v_iconst (x := (1 : Int32)) hc dX1_takeSign_46 zi_1 ?_
      refine v_iadd hc dX1_takeSign_47 ?_
      refine v_put hc kX1 7 (by decide) w_266 rfl rfl dX1_takeSign_48 ⟨rfl, rfl⟩ fun h48 => ?_
      refine v_aload_n (i := 0) hc 0 rfl dX1_takeSign_51 rfl ?_
      refine v_aload_n (i := 1) hc 1 rfl dX1_takeSign_52 rfl ?_
      refine v_getVN hc kX6 4 (by decide) w_233 rfl dX1_takeSign_53 (gI rfl fun x53 => ?_)
      refine v_cV hc (m_V' (As := [.int x53]) (b := this) (rest := []) 1 hc hr (fun l D tys base => ct1_join l D tys base h48 this x53) (fun x hx => ob1_join hx) rfl s1_join w_748 rfl ⟨Nat.le_of_ble_eq_true rfl, Nat.le_of_ble_eq_true rfl⟩ ⟨Nat.le_of_ble_eq_true rfl, Nat.le_of_ble_eq_true rfl⟩ (Nat.le_of_ble_eq_true rfl) dX1_takeSign_56) fun x56 => ?_
      refine v_aload_n (i := 0) hc 0 rfl dX1_takeSign_59 rfl ?_
      refine v_iconst (x := (2 : Int32)) hc dX1_takeSign_60 zi_2 ?_
      refine v_put hc kX1 3 (by decide) w_262 rfl rfl dX1_takeSign_61 ⟨rfl, rfl⟩ fun h61 => ?_
      refine v_aload_n (i := 0) hc 0 rfl dX1_takeSign_64 rfl ?_
      refine v_iconst (x := (3 : Int32)) hc dX1_takeSign_65 zi_3 ?_
      refine v_put hc kX1 2 (by decide) w_261 rfl rfl dX1_takeSign_66 ⟨rfl, rfl⟩ fun h66 => ?_
      exact v_vret hc hq (Nat.le_of_ble_eq_true rfl) (Nat.le_of_ble_eq_true rfl) rfl dX1_takeSign_69
    · refine v_aload_n (i := 0) hc 0 rfl dX1_takeSign_32 rfl ?_
      refine v_aload_n (i := 1) hc 1 rfl dX1_takeSign_33 rfl ?_
      refine v_iconst (x := (3 : Int32)) hc dX1_takeSign_34 zi_3 ?_
      refine v_cV hc (m_V' (As := [.ref p0, .int (3 : Int32)]) (b := this) (rest := []) 2 hc hr (fun l D tys base => ct1_fail l D tys base h this p0 (3 : Int32)) (fun x hx => ob1_fail hx) rfl s1_fail w_697 rfl ⟨Nat.le_of_ble_eq_true rfl, Nat.le_of_ble_eq_true rfl⟩ ⟨Nat.le_of_ble_eq_true rfl, Nat.le_of_ble_eq_true rfl⟩ (Nat.le_of_ble_eq_true rfl) dX1_takeSign_35) fun x35 => ?_
      refine v_goto hc 69 dX1_takeSign_38 rfl ?_
      exact v_vret hc hq (Nat.le_of_ble_eq_true rfl) (Nat.le_of_ble_eq_true rfl) rfl dX1_takeSign_69
  · refine v_aload_n (i := 0) hc 0 rfl dX1_takeSign_14 rfl ?_
    refine v_aload_n (i := 1) hc 1 rfl dX1_takeSign_15 rfl ?_
    refine v_iconst (x := (0 : Int32)) hc dX1_takeSign_16 zi_0 ?_
    refine v_cV hc (m_V' (As := [.ref p0, .int (0 : Int32)]) (b := this) (rest := []) 2 hc hr (fun l D tys base => ct1_fail l D tys base h this p0 (0 : Int32)) (fun x hx => ob1_fail hx) rfl s1_fail w_697 rfl ⟨Nat.le_of_ble_eq_true rfl, Nat.le_of_ble_eq_true rfl⟩ ⟨Nat.le_of_ble_eq_true rfl, Nat.le_of_ble_eq_true rfl⟩ (Nat.le_of_ble_eq_true rfl) dX1_takeSign_17) fun x17 => ?_
    refine v_goto hc 69 dX1_takeSign_20 rfl ?_
    exact v_vret hc hq (Nat.le_of_ble_eq_true rfl) (Nat.le_of_ble_eq_true rfl) rfl dX1_takeSign_69
theorem s1_takeSign : YV yX1_takeSign RX1 cX1_takeSign 2 none 1 := ⟨w_778, w_777, w_26, w_114, rfl, by decide +kernel, by decide +kernel, by decide +kernel⟩
def f1_takeBehindValue (h : AH) (this : Nat) (p0 : Nat) : Option (AH) := (hObj 1 h this).bind fun _ => (fI 6 4 h p0).bind fun x1 => (if x1 = (27 : Int32) then (f1_join h this x1).bind fun x25 => (fS 1 2 x25 this (.int (3 : Int32))).bind fun h30 => some h30 else (if x1 = (28 : Int32) then (f1_join h this x1).bind fun x25 => (fS 1 2 x25 this (.int (3 : Int32))).bind fun h30 => some h30 else (if x1 = (29 : Int32) then (f1_join h this x1).bind fun x25 => (fS 1 2 x25 this (.int (3 : Int32))).bind fun h30 => some h30 else (fI 1 3 h this).bind fun x37 => (if x37 = (2 : Int32) then (f1_takeBehindFact h this p0).bind fun x46 => some x46 else (fI 1 3 h this).bind fun x53 => (if x53 = (1 : Int32) then (f1_takeSign h this p0).bind fun x62 => some x62 else (if x1 = (17 : Int32) then (f1_emitDownTo h this (1 : Int32)).bind fun x76 => (fS 1 4 x76 this (.int (17 : Int32))).bind fun h82 => (fS 1 2 h82 this (.int (4 : Int32))).bind fun h87 => some h87 else (f1_takeBehindClause h this p0).bind fun x95 => some x95))))))
theorem ob1_takeBehindValue {h : AH} {this : Nat} {p0 : Nat} {x : AH} (e : f1_takeBehindValue h this p0 = some x) : ∃ fs, hObj 1 h this = some fs := by
  unfold f1_takeBehindValue at e
  obtain ⟨fs, h1, -⟩ := bd e
  exact ⟨fs, h1⟩
set_option maxRecDepth 100000 in
theorem ct1_takeBehindValue (l : Launch) (D : va_G) (tys : Tys) (base : Nat) (h : AH) (this : Nat) (p0 : Nat) : Ct l D tys base yX1_takeBehindValue cX1_takeBehindValue 3 none 5 105 0 0 [.ref this, .ref p0] h (wV) (f1_takeBehindValue h this p0) := by
  refine Ct.intro (own := RX1) (L := [(0, .ref this), (1, .ref p0)]) rfl (by decide) rfl (Nat.le_of_ble_eq_true rfl) fun κ hc hr hq hi hL => ?_
  have hn : ∀ i, i < 3 → i < κ.2.2.2.2.1 := fun i q => hL ▸ q
  unfold f1_takeBehindValue
  refine v_obj ?_
  refine v_aload_n (i := 1) hc 1 rfl dX1_takeBehindValue_0 rfl ?_
  refine v_getVN hc kX6 4 (by decide) w_233 rfl dX1_takeBehindValue_1 (gI rfl fun x1 => ?_)
  refine v_istore_n (i := 2) (L' := [(2, .int x1), (0, .ref this), (1, .ref p0)]) hc dX1_takeBehindValue_4 rfl (hn 2 (Nat.le_of_ble_eq_true rfl)) rfl ?_
  refine v_iload_n (i := 2) hc 0 rfl dX1_takeBehindValue_5 rfl ?_
  refine v_bipush (x := (27 : Int32)) hc dX1_takeBehindValue_6 zb_27 ?_
  refine v_icmp_eq hc 23 dX1_takeBehindValue_8 rfl ?_ ?_
  · refine v_aload_n (i := 0) hc 1 rfl dX1_takeBehindValue_23 rfl ?_
    refine v_iload_n (i := 2) hc 0 rfl dX1_takeBehindValue_24 rfl ?_
    refine v_cV hc (m_V' (As := [.int x1]) (b := this) (rest := []) 1 hc hr (fun l D tys base => ct1_join l D tys base h this x1) (fun x hx => ob1_join hx) rfl s1_join w_748 rfl ⟨Nat.le_of_ble_eq_true rfl, Nat.le_of_ble_eq_true rfl⟩ ⟨Nat.le_of_ble_eq_true rfl, Nat.le_of_ble_eq_true rfl⟩ (Nat.le_of_ble_eq_true rfl) dX1_takeBehindValue_25) fun x25 => ?_
    refine v_aload_n (i := 0) hc 1 rfl dX1_takeBehindValue_28 rfl ?_
    refine v_iconst (x := (3 : Int32)) hc dX1_takeBehindValue_29 zi_3 ?_
    refine v_put hc kX1 2 (by decide) w_261 rfl rfl dX1_takeBehindValue_30 ⟨rfl, rfl⟩ fun h30 => ?_
    refine v_goto hc 98 dX1_takeBehindValue_33 rfl ?_
    exact v_vret hc hq (Nat.le_of_ble_eq_true rfl) (Nat.le_of_ble_eq_true rfl) rfl dX1_takeBehindValue_98
  · refine v_iload_n (i := 2) hc 0 rfl dX1_takeBehindValue_11 rfl ?_
    refine v_bipush (x := (28 : Int32)) hc dX1_takeBehindValue_12 zb_28 ?_
    refine v_icmp_eq hc 23 dX1_takeBehindValue_14 rfl ?_ ?_
    · refine v_aload_n (i := 0) hc 1 rfl dX1_takeBehindValue_23 rfl ?_
      refine v_iload_n (i := 2) hc 0 rfl dX1_takeBehindValue_24 rfl ?_
      refine v_cV hc (m_V' (As := [.int x1]) (b := this) (rest := []) 1 hc hr (fun l D tys base => ct1_join l D tys base h this x1) (fun x hx => ob1_join hx) rfl s1_join w_748 rfl ⟨Nat.le_of_ble_eq_true rfl, Nat.le_of_ble_eq_true rfl⟩ ⟨Nat.le_of_ble_eq_true rfl, Nat.le_of_ble_eq_true rfl⟩ (Nat.le_of_ble_eq_true rfl) dX1_takeBehindValue_25) fun x25 => ?_
      refine v_aload_n (i := 0) hc 1 rfl dX1_takeBehindValue_28 rfl ?_
      refine v_iconst (x := (3 : Int32)) hc dX1_takeBehindValue_29 zi_3 ?_
      refine v_put hc kX1 2 (by decide) w_261 rfl rfl dX1_takeBehindValue_30 ⟨rfl, rfl⟩ fun h30 => ?_
      refine v_goto hc 98 dX1_takeBehindValue_33 rfl ?_
      exact v_vret hc hq (Nat.le_of_ble_eq_true rfl) (Nat.le_of_ble_eq_true rfl) rfl dX1_takeBehindValue_98
    · refine v_iload_n (i := 2) hc 0 rfl dX1_takeBehindValue_17 rfl ?_
      refine v_bipush (x := (29 : Int32)) hc dX1_takeBehindValue_18 zb_29 ?_
      refine v_icmp_ne hc 36 dX1_takeBehindValue_20 rfl ?_ ?_
      · refine v_aload_n (i := 0) hc 1 rfl dX1_takeBehindValue_36 rfl ?_
        refine v_getV hc kX1 3 (by decide) w_262 rfl dX1_takeBehindValue_37 (gI rfl fun x37 => ?_)
        refine v_iconst (x := (2 : Int32)) hc dX1_takeBehindValue_40 zi_2 ?_
        refine v_icmp_ne hc 52 dX1_takeBehindValue_41 rfl ?_ ?_
        · refine v_aload_n (i := 0) hc 1 rfl dX1_takeBehindValue_52 rfl ?_
          refine v_getV hc kX1 3 (by decide) w_262 rfl dX1_takeBehindValue_53 (gI rfl fun x53 => ?_)
          refine v_iconst (x := (1 : Int32)) hc dX1_takeBehindValue_56 zi_1 ?_
          refine v_icmp_ne hc 68 dX1_takeBehindValue_57 rfl ?_ ?_
          · refine v_iload_n (i := 2) hc 0 rfl dX1_takeBehindValue_68 rfl ?_
            refine v_bipush (x := (17 : Int32)) hc dX1_takeBehindValue_69 zb_17 ?_
            refine v_icmp_ne hc 93 dX1_takeBehindValue_71 rfl ?_ ?_
            · refine v_aload_n (i := 0) hc 1 rfl dX1_takeBehindValue_93 rfl ?_
              refine v_aload_n (i := 1) hc 2 rfl dX1_takeBehindValue_94 rfl ?_
              refine v_cV hc (m_V' (As := [.ref p0]) (b := this) (rest := []) 1 hc hr (fun l D tys base => ct1_takeBehindClause l D tys base h this p0) (fun x hx => ob1_takeBehindClause hx) rfl s1_takeBehindClause w_771 rfl ⟨Nat.le_of_ble_eq_true rfl, Nat.le_of_ble_eq_true rfl⟩ ⟨Nat.le_of_ble_eq_true rfl, Nat.le_of_ble_eq_true rfl⟩ (Nat.le_of_ble_eq_true rfl) dX1_takeBehindValue_95) fun x95 => ?_
              exact v_vret hc hq (Nat.le_of_ble_eq_true rfl) (Nat.le_of_ble_eq_true rfl) rfl dX1_takeBehindValue_98
            · refine v_aload_n (i := 0) hc 1 rfl dX1_takeBehindValue_74 rfl ?_
              refine v_iconst (x := (1 : Int32)) hc dX1_takeBehindValue_75 zi_1 ?_
              refine v_cV hc (m_V' (As := [.int (1 : Int32)]) (b := this) (rest := []) 1 hc hr (fun l D tys base => ct1_emitDownTo l D tys base h this (1 : Int32)) (fun x hx => ob1_emitDownTo hx) rfl s1_emitDownTo w_755 rfl ⟨Nat.le_of_ble_eq_true rfl, Nat.le_of_ble_eq_true rfl⟩ ⟨Nat.le_of_ble_eq_true rfl, Nat.le_of_ble_eq_true rfl⟩ (Nat.le_of_ble_eq_true rfl) dX1_takeBehindValue_76) fun x76 => ?_
              refine v_aload_n (i := 0) hc 1 rfl dX1_takeBehindValue_79 rfl ?_
              refine v_bipush (x := (17 : Int32)) hc dX1_takeBehindValue_80 zb_17 ?_
              refine v_put hc kX1 4 (by decide) w_263 rfl rfl dX1_takeBehindValue_82 ⟨rfl, rfl⟩ fun h82 => ?_
              refine v_aload_n (i := 0) hc 1 rfl dX1_takeBehindValue_85 rfl ?_
              refine v_iconst (x := (4 : Int32)) hc dX1_takeBehindValue_86 zi_4 ?_
              refine v_put hc kX1 2 (by decide) w_261 rfl rfl dX1_takeBehindValue_87 ⟨rfl, rfl⟩ fun h87 => ?_
              refine v_goto hc 98 dX1_takeBehindValue_90 rfl ?_
              exact v_vret hc hq (Nat.le_of_ble_eq_true rfl) (Nat.le_of_ble_eq_true rfl) rfl dX1_takeBehindValue_98
          · refine v_aload_n (i := 0) hc 1 rfl dX1_takeBehindValue_60 rfl ?_
            refine v_aload_n (i := 1) hc 2 rfl dX1_takeBehindValue_61 rfl ?_
            refine v_cV hc (m_V' (As := [.ref p0]) (b := this) (rest := []) 1 hc hr (fun l D tys base => ct1_takeSign l D tys base h this p0) (fun x hx => ob1_takeSign hx) rfl s1_takeSign w_775 rfl ⟨Nat.le_of_ble_eq_true rfl, Nat.le_of_ble_eq_true rfl⟩ ⟨Nat.le_of_ble_eq_true rfl, Nat.le_of_ble_eq_true rfl⟩ (Nat.le_of_ble_eq_true rfl) dX1_takeBehindValue_62) fun x62 => ?_
            refine v_goto hc 98 dX1_takeBehindValue_65 rfl ?_
            exact v_vret hc hq (Nat.le_of_ble_eq_true rfl) (Nat.le_of_ble_eq_true rfl) rfl dX1_takeBehindValue_98
        · refine v_aload_n (i := 0) hc 1 rfl dX1_takeBehindValue_44 rfl ?_
          refine v_aload_n (i := 1) hc 2 rfl dX1_takeBehindValue_45 rfl ?_
          refine v_cV hc (m_V' (As := [.ref p0]) (b := this) (rest := []) 1 hc hr (fun l D tys base => ct1_takeBehindFact l D tys base h this p0) (fun x hx => ob1_takeBehindFact hx) rfl s1_takeBehindFact w_763 rfl ⟨Nat.le_of_ble_eq_true rfl, Nat.le_of_ble_eq_true rfl⟩ ⟨Nat.le_of_ble_eq_true rfl, Nat.le_of_ble_eq_true rfl⟩ (Nat.le_of_ble_eq_true rfl) dX1_takeBehindValue_46) fun x46 => ?_
          refine v_goto hc 98 dX1_takeBehindValue_49 rfl ?_
          exact v_vret hc hq (Nat.le_of_ble_eq_true rfl) (Nat.le_of_ble_eq_true rfl) rfl dX1_takeBehindValue_98
      · refine v_aload_n (i := 0) hc 1 rfl dX1_takeBehindValue_23 rfl ?_
        refine v_iload_n (i := 2) hc 0 rfl dX1_takeBehindValue_24 rfl ?_
        refine v_cV hc (m_V' (As := [.int x1]) (b := this) (rest := []) 1 hc hr (fun l D tys base => ct1_join l D tys base h this x1) (fun x hx => ob1_join hx) rfl s1_join w_748 rfl ⟨Nat.le_of_ble_eq_true rfl, Nat.le_of_ble_eq_true rfl⟩ ⟨Nat.le_of_ble_eq_true rfl, Nat.le_of_ble_eq_true rfl⟩ (Nat.le_of_ble_eq_true rfl) dX1_takeBehindValue_25) fun x25 => ?_
        refine v_aload_n (i := 0) hc 1 rfl dX1_takeBehindValue_28 rfl ?_
        refine v_iconst (x := (3 : Int32)) hc dX1_takeBehindValue_29 zi_3 ?_
        refine v_put hc kX1 2 (by decide) w_261 rfl rfl dX1_takeBehindValue_30 ⟨rfl, rfl⟩ fun h30 => ?_
        refine v_goto hc 98 dX1_takeBehindValue_33 rfl ?_
        exact v_vret hc hq (Nat.le_of_ble_eq_true rfl) (Nat.le_of_ble_eq_true rfl) rfl dX1_takeBehindValue_98
theorem s1_takeBehindValue : YV yX1_takeBehindValue RX1 cX1_takeBehindValue 3 none 1 := ⟨w_747, w_746, w_19, w_114, rfl, by decide +kernel, by decide +kernel, by decide +kernel⟩
def f1_parse_13 (v0 : Nat) (v1 : Nat) : Nat → AH → Int32 → Option (Int32 × AH)
  | 0, _, _ => none
  | n + 1, h, v4 => (if (400 : Int32) < v4 then (fI 1 8 h v0).bind fun x148 => some (x148, h) else (fI 1 2 h v0).bind fun x22 => (if x22 = (7 : Int32) then (fI 1 8 h v0).bind fun x148 => some (x148, h) else (fI 1 8 h v0).bind fun x31 => (if x31 = 0 then (f6_nextToken h v1).bind fun x38 => (fI 1 2 x38 v0).bind fun x42 => (if x42 = (0 : Int32) then (f1_takeClause x38 v0 v1).bind fun x90 => (some (v4 + (1 : Int32))).bind fun x141 => f1_parse_13 v0 v1 n x90 x141 else (if x42 = (1 : Int32) then (f1_takeSetting x38 v0 v1).bind fun x98 => (some (v4 + (1 : Int32))).bind fun x141 => f1_parse_13 v0 v1 n x98 x141 else (if x42 = (2 : Int32) then (f1_takeBehindClause x38 v0 v1).bind fun x138 => (some (v4 + (1 : Int32))).bind fun x141 => f1_parse_13 v0 v1 n x138 x141 else (if x42 = (3 : Int32) then (f1_takeValue x38 v0 v1).bind fun x106 => (some (v4 + (1 : Int32))).bind fun x141 => f1_parse_13 v0 v1 n x106 x141 else (if x42 = (4 : Int32) then (f1_takeFactStart x38 v0 v1).bind fun x114 => (some (v4 + (1 : Int32))).bind fun x141 => f1_parse_13 v0 v1 n x114 x141 else (if x42 = (5 : Int32) then (f1_takeBehindValue x38 v0 v1).bind fun x122 => (some (v4 + (1 : Int32))).bind fun x141 => f1_parse_13 v0 v1 n x122 x141 else (if x42 = (6 : Int32) then (f1_takeBehindFact x38 v0 v1).bind fun x130 => (some (v4 + (1 : Int32))).bind fun x141 => f1_parse_13 v0 v1 n x130 x141 else (f1_takeBehindClause x38 v0 v1).bind fun x138 => (some (v4 + (1 : Int32))).bind fun x141 => f1_parse_13 v0 v1 n x138 x141))))))) else (fI 1 8 h v0).bind fun x148 => some (x148, h))))
set_option maxRecDepth 100000 in
theorem vl1_parse_13 {κ : Kx} (hc : CX κ RX1 cX1_parse) (hr : RX κ ({ frames := 7, cells := 0, slots := 0, locals := 154 } : Room)) (hq : QX κ (some .int) 0 0) (hL : 5 = κ.2.2.2.2.1)  (v0 : Nat) (v1 : Nat) : ∀ n (h : AH) (v4 : Int32), V κ (wI) 0 0 13 [(0, .ref v0), (1, .ref v1), (4, .int v4)] [] h (f1_parse_13 v0 v1 n h v4) := by
  have hn : ∀ i, i < 5 → i < κ.2.2.2.2.1 := fun i q => hL ▸ q
  intro n
  induction n with
  | zero => intros; exact v_none
  | succ n ih =>
    intro h v4
    rw [f1_parse_13.eq_2]
    refine v_iload (i := 4) hc 2 rfl dX1_parse_13 ?_
    refine v_sipush (x := (400 : Int32)) hc dX1_parse_15 zs_400 ?_
    refine v_icmp_gt hc 147 dX1_parse_18 rfl ?_ ?_
    · refine v_aload_n (i := 0) hc 0 rfl dX1_parse_147 rfl ?_
      refine v_getV hc kX1 8 (by decide) w_267 rfl dX1_parse_148 (gI rfl fun x148 => ?_)
      exact v_iret hc hq rfl rfl (Nat.le_of_ble_eq_true rfl) (Nat.le_of_ble_eq_true rfl) rfl dX1_parse_151
    · refine v_aload_n (i := 0) hc 0 rfl dX1_parse_21 rfl ?_
      refine v_getV hc kX1 2 (by decide) w_261 rfl dX1_parse_22 (gI rfl fun x22 => ?_)
      refine v_bipush (x := (7 : Int32)) hc dX1_parse_25 zb_7 ?_
      refine v_icmp_eq hc 147 dX1_parse_27 rfl ?_ ?_
      · refine v_aload_n (i := 0) hc 0 rfl dX1_parse_147 rfl ?_
        refine v_getV hc kX1 8 (by decide) w_267 rfl dX1_parse_148 (gI rfl fun x148 => ?_)
        exact v_iret hc hq rfl rfl (Nat.le_of_ble_eq_true rfl) (Nat.le_of_ble_eq_true rfl) rfl dX1_parse_151
      · refine v_aload_n (i := 0) hc 0 rfl dX1_parse_30 rfl ?_
        refine v_getV hc kX1 8 (by decide) w_267 rfl dX1_parse_31 (gI rfl fun x31 => ?_)
        refine v_if_ne hc 147 dX1_parse_34 rfl ?_ ?_
        · refine v_aload_n (i := 0) hc 0 rfl dX1_parse_147 rfl ?_
          refine v_getV hc kX1 8 (by decide) w_267 rfl dX1_parse_148 (gI rfl fun x148 => ?_)
          exact v_iret hc hq rfl rfl (Nat.le_of_ble_eq_true rfl) (Nat.le_of_ble_eq_true rfl) rfl dX1_parse_151
        · refine v_aload_n (i := 1) hc 1 rfl dX1_parse_37 rfl ?_
          refine v_cV hc (m_V' (As := []) (b := v1) (rest := []) 0 hc hr (fun l D tys base => ct6_nextToken l D tys base h v1) (fun x hx => ob6_nextToken hx) rfl s6_nextToken w_612 rfl ⟨Nat.le_of_ble_eq_true rfl, Nat.le_of_ble_eq_true rfl⟩ ⟨Nat.le_of_ble_eq_true rfl, Nat.le_of_ble_eq_true rfl⟩ (Nat.le_of_ble_eq_true rfl) dX1_parse_38) fun x38 => ?_
          refine v_aload_n (i := 0) hc 0 rfl dX1_parse_41 rfl ?_
          refine v_getV hc kX1 2 (by decide) w_261 rfl dX1_parse_42 (gI rfl fun x42 => ?_)
          refine v_ite (fun q0 => ?_) (fun q0 => ?_)
          · refine v_tIn hc (0 : Int32) q0 88 dX1_parse_45 (by decide) (by decide) rfl rfl ?_
            refine v_aload_n (i := 0) hc 0 rfl dX1_parse_88 rfl ?_
            refine v_aload_n (i := 1) hc 1 rfl dX1_parse_89 rfl ?_
            refine v_cV hc (m_V' (As := [.ref v1]) (b := v0) (rest := []) 1 hc hr (fun l D tys base => ct1_takeClause l D tys base x38 v0 v1) (fun x hx => ob1_takeClause hx) rfl s1_takeClause w_689 rfl ⟨Nat.le_of_ble_eq_true rfl, Nat.le_of_ble_eq_true rfl⟩ ⟨Nat.le_of_ble_eq_true rfl, Nat.le_of_ble_eq_true rfl⟩ (Nat.le_of_ble_eq_true rfl) dX1_parse_90) fun x90 => ?_
            refine v_goto hc 141 dX1_parse_93 rfl ?_
            refine v_iincN (i := 4) (y := (1 : Int32)) (L' := fun z => [(4, .int z), (0, .ref v0), (1, .ref v1)]) hc 2 rfl dX1_parse_141 zi_1 (hn 4 (Nat.le_of_ble_eq_true rfl)) (fun _ => rfl) fun x141 => ?_
            refine v_goto hc 13 dX1_parse_144 rfl ?_
            refine v_sub (L' := [(0, .ref v0), (1, .ref v1), (4, .int x141)]) [1, 2, 0] rfl ?_
            exact ih x90 x141
          · refine v_ite (fun q1 => ?_) (fun q1 => ?_)
            · refine v_tIn hc (1 : Int32) q1 96 dX1_parse_45 (by decide) (by decide) rfl rfl ?_
              refine v_aload_n (i := 0) hc 0 rfl dX1_parse_96 rfl ?_
              refine v_aload_n (i := 1) hc 1 rfl dX1_parse_97 rfl ?_
              refine v_cV hc (m_V' (As := [.ref v1]) (b := v0) (rest := []) 1 hc hr (fun l D tys base => ct1_takeSetting l D tys base x38 v0 v1) (fun x hx => ob1_takeSetting hx) rfl s1_takeSetting w_702 rfl ⟨Nat.le_of_ble_eq_true rfl, Nat.le_of_ble_eq_true rfl⟩ ⟨Nat.le_of_ble_eq_true rfl, Nat.le_of_ble_eq_true rfl⟩ (Nat.le_of_ble_eq_true rfl) dX1_parse_98) fun x98 => ?_
              refine v_goto hc 141 dX1_parse_101 rfl ?_
              refine v_iincN (i := 4) (y := (1 : Int32)) (L' := fun z => [(4, .int z), (0, .ref v0), (1, .ref v1)]) hc 2 rfl dX1_parse_141 zi_1 (hn 4 (Nat.le_of_ble_eq_true rfl)) (fun _ => rfl) fun x141 => ?_
              refine v_goto hc 13 dX1_parse_144 rfl ?_
              refine v_sub (L' := [(0, .ref v0), (1, .ref v1), (4, .int x141)]) [1, 2, 0] rfl ?_
              exact ih x98 x141
            · refine v_ite (fun q2 => ?_) (fun q2 => ?_)
              · refine v_tIn hc (2 : Int32) q2 136 dX1_parse_45 (by decide) (by decide) rfl rfl ?_
                refine v_aload_n (i := 0) hc 0 rfl dX1_parse_136 rfl ?_
                refine v_aload_n (i := 1) hc 1 rfl dX1_parse_137 rfl ?_
                refine v_cV hc (m_V' (As := [.ref v1]) (b := v0) (rest := []) 1 hc hr (fun l D tys base => ct1_takeBehindClause l D tys base x38 v0 v1) (fun x hx => ob1_takeBehindClause hx) rfl s1_takeBehindClause w_771 rfl ⟨Nat.le_of_ble_eq_true rfl, Nat.le_of_ble_eq_true rfl⟩ ⟨Nat.le_of_ble_eq_true rfl, Nat.le_of_ble_eq_true rfl⟩ (Nat.le_of_ble_eq_true rfl) dX1_parse_138) fun x138 => ?_
                refine v_iincN (i := 4) (y := (1 : Int32)) (L' := fun z => [(4, .int z), (0, .ref v0), (1, .ref v1)]) hc 2 rfl dX1_parse_141 zi_1 (hn 4 (Nat.le_of_ble_eq_true rfl)) (fun _ => rfl) fun x141 => ?_
                refine v_goto hc 13 dX1_parse_144 rfl ?_
                refine v_sub (L' := [(0, .ref v0), (1, .ref v1), (4, .int x141)]) [1, 2, 0] rfl ?_
                exact ih x138 x141
              · refine v_ite (fun q3 => ?_) (fun q3 => ?_)
                · refine v_tIn hc (3 : Int32) q3 104 dX1_parse_45 (by decide) (by decide) rfl rfl ?_
                  refine v_aload_n (i := 0) hc 0 rfl dX1_parse_104 rfl ?_
                  refine v_aload_n (i := 1) hc 1 rfl dX1_parse_105 rfl ?_
                  refine v_cV hc (m_V' (As := [.ref v1]) (b := v0) (rest := []) 1 hc hr (fun l D tys base => ct1_takeValue l D tys base x38 v0 v1) (fun x hx => ob1_takeValue hx) rfl s1_takeValue w_720 rfl ⟨Nat.le_of_ble_eq_true rfl, Nat.le_of_ble_eq_true rfl⟩ ⟨Nat.le_of_ble_eq_true rfl, Nat.le_of_ble_eq_true rfl⟩ (Nat.le_of_ble_eq_true rfl) dX1_parse_106) fun x106 => ?_
                  refine v_goto hc 141 dX1_parse_109 rfl ?_
                  refine v_iincN (i := 4) (y := (1 : Int32)) (L' := fun z => [(4, .int z), (0, .ref v0), (1, .ref v1)]) hc 2 rfl dX1_parse_141 zi_1 (hn 4 (Nat.le_of_ble_eq_true rfl)) (fun _ => rfl) fun x141 => ?_
                  refine v_goto hc 13 dX1_parse_144 rfl ?_
                  refine v_sub (L' := [(0, .ref v0), (1, .ref v1), (4, .int x141)]) [1, 2, 0] rfl ?_
                  exact ih x106 x141
                · refine v_ite (fun q4 => ?_) (fun q4 => ?_)
                  · refine v_tIn hc (4 : Int32) q4 112 dX1_parse_45 (by decide) (by decide) rfl rfl ?_
                    refine v_aload_n (i := 0) hc 0 rfl dX1_parse_112 rfl ?_
                    refine v_aload_n (i := 1) hc 1 rfl dX1_parse_113 rfl ?_
                    refine v_cV hc (m_V' (As := [.ref v1]) (b := v0) (rest := []) 1 hc hr (fun l D tys base => ct1_takeFactStart l D tys base x38 v0 v1) (fun x hx => ob1_takeFactStart hx) rfl s1_takeFactStart w_736 rfl ⟨Nat.le_of_ble_eq_true rfl, Nat.le_of_ble_eq_true rfl⟩ ⟨Nat.le_of_ble_eq_true rfl, Nat.le_of_ble_eq_true rfl⟩ (Nat.le_of_ble_eq_true rfl) dX1_parse_114) fun x114 => ?_
                    refine v_goto hc 141 dX1_parse_117 rfl ?_
                    refine v_iincN (i := 4) (y := (1 : Int32)) (L' := fun z => [(4, .int z), (0, .ref v0), (1, .ref v1)]) hc 2 rfl dX1_parse_141 zi_1 (hn 4 (Nat.le_of_ble_eq_true rfl)) (fun _ => rfl) fun x141 => ?_
                    refine v_goto hc 13 dX1_parse_144 rfl ?_
                    refine v_sub (L' := [(0, .ref v0), (1, .ref v1), (4, .int x141)]) [1, 2, 0] rfl ?_
                    exact ih x114 x141
                  · refine v_ite (fun q5 => ?_) (fun q5 => ?_)
                    · refine v_tIn hc (5 : Int32) q5 120 dX1_parse_45 (by decide) (by decide) rfl rfl ?_
                      refine v_aload_n (i := 0) hc 0 rfl dX1_parse_120 rfl ?_
                      refine v_aload_n (i := 1) hc 1 rfl dX1_parse_121 rfl ?_
                      refine v_cV hc (m_V' (As := [.ref v1]) (b := v0) (rest := []) 1 hc hr (fun l D tys base => ct1_takeBehindValue l D tys base x38 v0 v1) (fun x hx => ob1_takeBehindValue hx) rfl s1_takeBehindValue w_744 rfl ⟨Nat.le_of_ble_eq_true rfl, Nat.le_of_ble_eq_true rfl⟩ ⟨Nat.le_of_ble_eq_true rfl, Nat.le_of_ble_eq_true rfl⟩ (Nat.le_of_ble_eq_true rfl) dX1_parse_122) fun x122 => ?_
                      refine v_goto hc 141 dX1_parse_125 rfl ?_
                      refine v_iincN (i := 4) (y := (1 : Int32)) (L' := fun z => [(4, .int z), (0, .ref v0), (1, .ref v1)]) hc 2 rfl dX1_parse_141 zi_1 (hn 4 (Nat.le_of_ble_eq_true rfl)) (fun _ => rfl) fun x141 => ?_
                      refine v_goto hc 13 dX1_parse_144 rfl ?_
                      refine v_sub (L' := [(0, .ref v0), (1, .ref v1), (4, .int x141)]) [1, 2, 0] rfl ?_
                      exact ih x122 x141
                    · refine v_ite (fun q6 => ?_) (fun q6 => ?_)
                      · refine v_tIn hc (6 : Int32) q6 128 dX1_parse_45 (by decide) (by decide) rfl rfl ?_
                        refine v_aload_n (i := 0) hc 0 rfl dX1_parse_128 rfl ?_
                        refine v_aload_n (i := 1) hc 1 rfl dX1_parse_129 rfl ?_
                        refine v_cV hc (m_V' (As := [.ref v1]) (b := v0) (rest := []) 1 hc hr (fun l D tys base => ct1_takeBehindFact l D tys base x38 v0 v1) (fun x hx => ob1_takeBehindFact hx) rfl s1_takeBehindFact w_763 rfl ⟨Nat.le_of_ble_eq_true rfl, Nat.le_of_ble_eq_true rfl⟩ ⟨Nat.le_of_ble_eq_true rfl, Nat.le_of_ble_eq_true rfl⟩ (Nat.le_of_ble_eq_true rfl) dX1_parse_130) fun x130 => ?_
                        refine v_goto hc 141 dX1_parse_133 rfl ?_
                        refine v_iincN (i := 4) (y := (1 : Int32)) (L' := fun z => [(4, .int z), (0, .ref v0), (1, .ref v1)]) hc 2 rfl dX1_parse_141 zi_1 (hn 4 (Nat.le_of_ble_eq_true rfl)) (fun _ => rfl) fun x141 => ?_
                        refine v_goto hc 13 dX1_parse_144 rfl ?_
                        refine v_sub (L' := [(0, .ref v0), (1, .ref v1), (4, .int x141)]) [1, 2, 0] rfl ?_
                        exact ih x130 x141
                      · refine v_tOut hc 136 dX1_parse_45 (by have e0 := lv_neT (a := 0) q0 (by decide); have e1 := lv_neT (a := 1) q1 (by decide); have e2 := lv_neT (a := 2) q2 (by decide); have e3 := lv_neT (a := 3) q3 (by decide); have e4 := lv_neT (a := 4) q4 (by decide); have e5 := lv_neT (a := 5) q5 (by decide); have e6 := lv_neT (a := 6) q6 (by decide); omega) rfl ?_
                        refine v_aload_n (i := 0) hc 0 rfl dX1_parse_136 rfl ?_
                        refine v_aload_n (i := 1) hc 1 rfl dX1_parse_137 rfl ?_
                        refine v_cV hc (m_V' (As := [.ref v1]) (b := v0) (rest := []) 1 hc hr (fun l D tys base => ct1_takeBehindClause l D tys base x38 v0 v1) (fun x hx => ob1_takeBehindClause hx) rfl s1_takeBehindClause w_771 rfl ⟨Nat.le_of_ble_eq_true rfl, Nat.le_of_ble_eq_true rfl⟩ ⟨Nat.le_of_ble_eq_true rfl, Nat.le_of_ble_eq_true rfl⟩ (Nat.le_of_ble_eq_true rfl) dX1_parse_138) fun x138 => ?_
                        refine v_iincN (i := 4) (y := (1 : Int32)) (L' := fun z => [(4, .int z), (0, .ref v0), (1, .ref v1)]) hc 2 rfl dX1_parse_141 zi_1 (hn 4 (Nat.le_of_ble_eq_true rfl)) (fun _ => rfl) fun x141 => ?_
                        refine v_goto hc 13 dX1_parse_144 rfl ?_
                        refine v_sub (L' := [(0, .ref v0), (1, .ref v1), (4, .int x141)]) [1, 2, 0] rfl ?_
                        exact ih x138 x141
def f1_parse (h : AH) (this : Nat) (p0 : Nat) (p1 : Option Nat) (p2 : Option Nat) : Option (Int32 × AH) := (hObj 1 h this).bind fun _ => (f1_begin h this p1 p2).bind fun x3 => (f6_rewind x3 p0).bind fun x7 => f1_parse_13 this p0 FU x7 (0 : Int32)
theorem ob1_parse {h : AH} {this : Nat} {p0 : Nat} {p1 : Option Nat} {p2 : Option Nat} {x : Int32 × AH} (e : f1_parse h this p0 p1 p2 = some x) : ∃ fs, hObj 1 h this = some fs := by
  unfold f1_parse at e
  obtain ⟨fs, h1, -⟩ := bd e
  exact ⟨fs, h1⟩
set_option maxRecDepth 100000 in
theorem ct1_parse (l : Launch) (D : va_G) (tys : Tys) (base : Nat) (h : AH) (this : Nat) (p0 : Nat) (p1 : Option Nat) (p2 : Option Nat) : Ct l D tys base yX1_parse cX1_parse 5 (some .int) 7 154 0 0 [.ref this, .ref p0, va_rf p1, va_rf p2] h (wI) (f1_parse h this p0 p1 p2) := by
  refine Ct.intro (own := RX1) (L := [(0, .ref this), (1, .ref p0), (2, va_rf p1), (3, va_rf p2)]) rfl (by decide) (by cases p1 <;> cases p2 <;> rfl) (by cases p1 <;> cases p2 <;> exact Nat.le_of_ble_eq_true rfl) fun κ hc hr hq hi hL => ?_
  have hn : ∀ i, i < 5 → i < κ.2.2.2.2.1 := fun i q => hL ▸ q
  unfold f1_parse
  refine v_obj ?_
  refine v_aload_n (i := 0) hc 0 rfl dX1_parse_0 rfl ?_
  refine v_aloadq_n (i := 2) (x := p1) hc 2 rfl dX1_parse_1 rfl ?_
  refine v_aloadq_n (i := 3) (x := p2) hc 3 rfl dX1_parse_2 rfl ?_
  refine v_cV hc (m_V' (As := [va_rf p1, va_rf p2]) (b := this) (rest := []) 2 hc hr (fun l D tys base => ct1_begin l D tys base h this p1 p2) (fun x hx => ob1_begin hx) rfl s1_begin w_596 rfl ⟨Nat.le_of_ble_eq_true rfl, Nat.le_of_ble_eq_true rfl⟩ ⟨Nat.le_of_ble_eq_true rfl, Nat.le_of_ble_eq_true rfl⟩ (Nat.le_of_ble_eq_true rfl) dX1_parse_3) fun x3 => ?_
  refine v_aload_n (i := 1) hc 1 rfl dX1_parse_6 rfl ?_
  refine v_cV hc (m_V' (As := []) (b := p0) (rest := []) 0 hc hr (fun l D tys base => ct6_rewind l D tys base x3 p0) (fun x hx => ob6_rewind hx) rfl s6_rewind w_608 rfl ⟨Nat.le_of_ble_eq_true rfl, Nat.le_of_ble_eq_true rfl⟩ ⟨Nat.le_of_ble_eq_true rfl, Nat.le_of_ble_eq_true rfl⟩ (Nat.le_of_ble_eq_true rfl) dX1_parse_7) fun x7 => ?_
  refine v_iconst (x := (0 : Int32)) hc dX1_parse_10 zi_0 ?_
  refine v_sub (L' := [(0, .ref this), (1, .ref p0)]) [0, 1] rfl ?_
  refine v_istore (i := 4) (L' := [(4, .int (0 : Int32)), (0, .ref this), (1, .ref p0)]) hc dX1_parse_11 (hn 4 (Nat.le_of_ble_eq_true rfl)) rfl ?_
  refine v_sub (L' := [(0, .ref this), (1, .ref p0), (4, .int (0 : Int32))]) [1, 2, 0] rfl ?_
  exact vl1_parse_13 hc hr hq hL this p0 FU x7 (0 : Int32)
theorem s1_parse : YV yX1_parse RX1 cX1_parse 5 (some .int) 3 := ⟨w_595, w_593, w_594, w_114, rfl, by decide +kernel, by decide +kernel, by decide +kernel⟩
def f3_pop (h : AH) (this : Nat) : Option (Int64 × AH) := (hObj 3 h this).bind fun _ => (fI 3 5 h this).bind fun x1 => (if x1 ≤ 0 then some ((0 : Int64), h) else (fI 3 5 h this).bind fun x8 => (fR 3 4 h this).bind fun x12 => (aN h x12).bind fun x15 => (if x8 ≤ x15 then (fI 3 5 h this).bind fun x23 => (fS 3 5 h this (.int (x23 - (1 : Int32)))).bind fun h28 => (fR 3 4 h28 this).bind fun x32 => (fI 3 5 h28 this).bind fun x36 => (aL' h28 x32 x36).bind fun x39 => some (x39, h28) else some ((0 : Int64), h)))
theorem ob3_pop {h : AH} {this : Nat} {x : Int64 × AH} (e : f3_pop h this = some x) : ∃ fs, hObj 3 h this = some fs := by
  unfold f3_pop at e
  obtain ⟨fs, h1, -⟩ := bd e
  exact ⟨fs, h1⟩
set_option maxRecDepth 100000 in
theorem ct3_pop (l : Launch) (D : va_G) (tys : Tys) (base : Nat) (h : AH) (this : Nat) : Ct l D tys base yX3_pop cX3_pop 1 (some .long) 0 0 0 0 [.ref this] h (wL) (f3_pop h this) := by
  refine Ct.intro (own := RX3) (L := [(0, .ref this)]) rfl (by decide) rfl (Nat.le_of_ble_eq_true rfl) fun κ hc hr hq hi hL => ?_
  have hn : ∀ i, i < 1 → i < κ.2.2.2.2.1 := fun i q => hL ▸ q
  unfold f3_pop
  refine v_obj ?_
  refine v_aload_n (i := 0) hc 0 rfl dX3_pop_0 rfl ?_
  refine v_getV hc kX3 5 (by decide) w_341 rfl dX3_pop_1 (gI rfl fun x1 => ?_)
  refine v_if_le hc 19 dX3_pop_4 rfl ?_ ?_
  · refine v_lconst (x := (0 : Int64)) hc dX3_pop_19 (by decide) ?_
    exact v_lret hc hq (Nat.le_of_ble_eq_true rfl) (Nat.le_of_ble_eq_true rfl) rfl dX3_pop_20
  · refine v_aload_n (i := 0) hc 0 rfl dX3_pop_7 rfl ?_
    refine v_getV hc kX3 5 (by decide) w_341 rfl dX3_pop_8 (gI rfl fun x8 => ?_)
    refine v_aload_n (i := 0) hc 0 rfl dX3_pop_11 rfl ?_
    refine v_getV hc kX3 4 (by decide) w_340 rfl dX3_pop_12 (gR rfl fun x12 => ?_)
    refine v_alen hc dX3_pop_15 fun x15 => ?_
    refine v_icmp_le hc 21 dX3_pop_16 rfl ?_ ?_
    · refine v_aload_n (i := 0) hc 0 rfl dX3_pop_21 rfl ?_
      refine v_dup hc dX3_pop_22 rfl ?_
      refine v_getV hc kX3 5 (by decide) w_341 rfl dX3_pop_23 (gI rfl fun x23 => ?_)
      refine v_iconst (x := (1 : Int32)) hc dX3_pop_26 zi_1 ?_
      refine v_isub hc dX3_pop_27 ?_
      refine v_put hc kX3 5 (by decide) w_341 rfl rfl dX3_pop_28 ⟨rfl, rfl⟩ fun h28 => ?_
      refine v_aload_n (i := 0) hc 0 rfl dX3_pop_31 rfl ?_
      refine v_getV hc kX3 4 (by decide) w_340 rfl dX3_pop_32 (gR rfl fun x32 => ?_)
      refine v_aload_n (i := 0) hc 0 rfl dX3_pop_35 rfl ?_
      refine v_getV hc kX3 5 (by decide) w_341 rfl dX3_pop_36 (gI rfl fun x36 => ?_)
      refine v_lald hc dX3_pop_39 fun x39 => ?_
      exact v_lret hc hq (Nat.le_of_ble_eq_true rfl) (Nat.le_of_ble_eq_true rfl) rfl dX3_pop_40
    · refine v_lconst (x := (0 : Int64)) hc dX3_pop_19 (by decide) ?_
      exact v_lret hc hq (Nat.le_of_ble_eq_true rfl) (Nat.le_of_ble_eq_true rfl) rfl dX3_pop_20
theorem s3_pop : YV yX3_pop RX3 cX3_pop 1 (some .long) 0 := ⟨w_837, w_836, w_32, w_116, rfl, by decide +kernel, by decide +kernel, by decide +kernel⟩
def f3_held (h : AH) (p0 : Int64) : Option (Int32) := (some (if p0 < (1000 : Int64) then p0 else (1000 : Int64))).bind fun z5 => (some (if z5 < (0 : Int64) then (0 : Int64) else z5)).bind fun z8 => some z8.toInt32
set_option maxRecDepth 100000 in
theorem ct3_held (l : Launch) (D : va_G) (tys : Tys) (base : Nat) (h : AH) (p0 : Int64) : Ct l D tys base yX3_held cX3_held 2 (some .int) 1 40 0 0 [.long p0] h (rI h) (f3_held h p0) := by
  refine Ct.intro (own := RX3) (L := [(0, .long p0)]) rfl (by decide) rfl (Nat.le_of_ble_eq_true rfl) fun κ hc hr hq hi hL => ?_
  have hn : ∀ i, i < 2 → i < κ.2.2.2.2.1 := fun i q => hL ▸ q
  unfold f3_held
  refine v_lconst (x := (0 : Int64)) hc dX3_held_0 (by decide) ?_
  refine v_ldc2 (x := (1000 : Int64)) hc w_841 dX3_held_1 ?_
  refine v_lload_n (i := 0) hc 0 rfl dX3_held_4 rfl ?_
  refine v_mmin_long hc hr w_842 w_843 w_111 w_844 (Nat.le_of_ble_eq_true rfl) (Nat.le_of_ble_eq_true rfl) (Nat.le_of_ble_eq_true rfl) (Nat.le_of_ble_eq_true rfl) dX3_held_5 (v_nmL fun z5 => ?_)
  refine v_mmax_long hc hr w_845 w_846 w_111 w_847 (Nat.le_of_ble_eq_true rfl) (Nat.le_of_ble_eq_true rfl) (Nat.le_of_ble_eq_true rfl) (Nat.le_of_ble_eq_true rfl) dX3_held_8 (v_nmL fun z8 => ?_)
  refine v_l2i hc dX3_held_11 ?_
  exact v_iret hc hq rfl rfl (Nat.le_of_ble_eq_true rfl) (Nat.le_of_ble_eq_true rfl) rfl dX3_held_12
theorem s3_held : YS yX3_held cX3_held 2 (some .int) 1 := ⟨w_840, w_839, w_116, by decide +kernel, by decide +kernel, by decide +kernel⟩
def f3_push (h : AH) (this : Nat) (p0 : Int64) : Option (AH) := (hObj 3 h this).bind fun _ => (fI 3 5 h this).bind fun x1 => (if x1 < 0 then some h else (fI 3 5 h this).bind fun x8 => (fR 3 4 h this).bind fun x12 => (aN h x12).bind fun x15 => (if x15 ≤ x8 then some h else (fR 3 4 h this).bind fun x20 => (fI 3 5 h this).bind fun x24 => (sL h x20 x24 p0).bind fun h28 => (fI 3 5 h28 this).bind fun x31 => (fS 3 5 h28 this (.int (x31 + (1 : Int32)))).bind fun h36 => some h36))
theorem ob3_push {h : AH} {this : Nat} {p0 : Int64} {x : AH} (e : f3_push h this p0 = some x) : ∃ fs, hObj 3 h this = some fs := by
  unfold f3_push at e
  obtain ⟨fs, h1, -⟩ := bd e
  exact ⟨fs, h1⟩
set_option maxRecDepth 100000 in
theorem ct3_push (l : Launch) (D : va_G) (tys : Tys) (base : Nat) (h : AH) (this : Nat) (p0 : Int64) : Ct l D tys base yX3_push cX3_push 3 none 0 0 0 0 [.ref this, .long p0] h (wV) (f3_push h this p0) := by
  refine Ct.intro (own := RX3) (L := [(0, .ref this), (1, .long p0)]) rfl (by decide) rfl (Nat.le_of_ble_eq_true rfl) fun κ hc hr hq hi hL => ?_
  have hn : ∀ i, i < 3 → i < κ.2.2.2.2.1 := fun i q => hL ▸ q
  unfold f3_push
  refine v_obj ?_
  refine v_aload_n (i := 0) hc 0 rfl dX3_push_0 rfl ?_
  refine v_getV hc kX3 5 (by decide) w_341 rfl dX3_push_1 (gI rfl fun x1 => ?_)
  refine v_if_lt hc 39 dX3_push_4 rfl ?_ ?_
  · exact v_vret hc hq (Nat.le_of_ble_eq_true rfl) (Nat.le_of_ble_eq_true rfl) rfl dX3_push_39
  · refine v_aload_n (i := 0) hc 0 rfl dX3_push_7 rfl ?_
    refine v_getV hc kX3 5 (by decide) w_341 rfl dX3_push_8 (gI rfl fun x8 => ?_)
    refine v_aload_n (i := 0) hc 0 rfl dX3_push_11 rfl ?_
    refine v_getV hc kX3 4 (by decide) w_340 rfl dX3_push_12 (gR rfl fun x12 => ?_)
    refine v_alen hc dX3_push_15 fun x15 => ?_
    refine v_icmp_ge hc 39 dX3_push_16 rfl ?_ ?_
    · exact v_vret hc hq (Nat.le_of_ble_eq_true rfl) (Nat.le_of_ble_eq_true rfl) rfl dX3_push_39
    · refine v_aload_n (i := 0) hc 0 rfl dX3_push_19 rfl ?_
      refine v_getV hc kX3 4 (by decide) w_340 rfl dX3_push_20 (gR rfl fun x20 => ?_)
      refine v_aload_n (i := 0) hc 0 rfl dX3_push_23 rfl ?_
      refine v_getV hc kX3 5 (by decide) w_341 rfl dX3_push_24 (gI rfl fun x24 => ?_)
      refine v_lload_n (i := 1) hc 1 rfl dX3_push_27 rfl ?_
      refine v_last hc dX3_push_28 fun h28 => ?_
      refine v_aload_n (i := 0) hc 0 rfl dX3_push_29 rfl ?_
      refine v_dup hc dX3_push_30 rfl ?_
      refine v_getV hc kX3 5 (by decide) w_341 rfl dX3_push_31 (gI rfl fun x31 => ?_)
      refine v_iconst (x := (1 : Int32)) hc dX3_push_34 zi_1 ?_
      refine v_iadd hc dX3_push_35 ?_
      refine v_put hc kX3 5 (by decide) w_341 rfl rfl dX3_push_36 ⟨rfl, rfl⟩ fun h36 => ?_
      exact v_vret hc hq (Nat.le_of_ble_eq_true rfl) (Nat.le_of_ble_eq_true rfl) rfl dX3_push_39
theorem s3_push : YV yX3_push RX3 cX3_push 3 none 1 := ⟨w_855, w_854, w_34, w_116, rfl, by decide +kernel, by decide +kernel, by decide +kernel⟩
def f3_bit (h : AH) (p0 : Bool) : Option (Int64) := (if p0 = true then some (1 : Int64) else some (0 : Int64))
set_option maxRecDepth 100000 in
theorem ct3_bit (l : Launch) (D : va_G) (tys : Tys) (base : Nat) (h : AH) (p0 : Bool) : Ct l D tys base yX3_bit cX3_bit 1 (some .long) 0 0 0 0 [.int (bI p0)] h (rL h) (f3_bit h p0) := by
  refine Ct.intro (own := RX3) (L := [(0, .int (bI p0))]) rfl (by decide) rfl (Nat.le_of_ble_eq_true rfl) fun κ hc hr hq hi hL => ?_
  have hn : ∀ i, i < 1 → i < κ.2.2.2.2.1 := fun i q => hL ▸ q
  unfold f3_bit
  refine v_iload_n (i := 0) hc 0 rfl dX3_bit_0 rfl ?_
  refine v_ifb_eq hc 8 dX3_bit_1 rfl ?_ ?_
  · refine v_lconst (x := (0 : Int64)) hc dX3_bit_8 (by decide) ?_
    exact v_lret hc hq (Nat.le_of_ble_eq_true rfl) (Nat.le_of_ble_eq_true rfl) rfl dX3_bit_9
  · refine v_lconst (x := (1 : Int64)) hc dX3_bit_4 (by decide) ?_
    refine v_goto hc 9 dX3_bit_5 rfl ?_
    exact v_lret hc hq (Nat.le_of_ble_eq_true rfl) (Nat.le_of_ble_eq_true rfl) rfl dX3_bit_9
theorem s3_bit : YS yX3_bit cX3_bit 1 (some .long) 1 := ⟨w_858, w_857, w_116, by decide +kernel, by decide +kernel, by decide +kernel⟩
def f3_joined (h : AH) (p0 : Int32) (p1 : Int64) (p2 : Int64) : Option (Int64) := (if p0 = (19 : Int32) then some (p1 &&& p2) else (if p0 = (20 : Int32) then some (p1 ||| p2) else (if p0 = (21 : Int32) then some (p1 ||| p2) else (if p0 = (22 : Int32) then (if p2 ≤ p1 then (f3_bit h false).bind fun x83 => some x83 else (f3_bit h true).bind fun x83 => some x83) else (if p0 = (23 : Int32) then (if p2 < p1 then (f3_bit h false).bind fun x98 => some x98 else (f3_bit h true).bind fun x98 => some x98) else (if p0 = (24 : Int32) then (if p1 = p2 then (f3_bit h true).bind fun x113 => some x113 else (f3_bit h false).bind fun x113 => some x113) else (if p0 = (25 : Int32) then (if p1 < p2 then (f3_bit h false).bind fun x128 => some x128 else (f3_bit h true).bind fun x128 => some x128) else (if p0 = (26 : Int32) then (if p1 ≤ p2 then (f3_bit h false).bind fun x143 => some x143 else (f3_bit h true).bind fun x143 => some x143) else (if p0 = (27 : Int32) then some (p1 + p2) else (if p0 = (28 : Int32) then some (p1 - p2) else (if p0 = (29 : Int32) then some (p1 * p2) else some (p1 ||| p2))))))))))))
set_option maxRecDepth 100000 in
theorem ct3_joined (l : Launch) (D : va_G) (tys : Tys) (base : Nat) (h : AH) (p0 : Int32) (p1 : Int64) (p2 : Int64) : Ct l D tys base yX3_joined cX3_joined 5 (some .long) 1 20 0 0 [.int p0, .long p1, .long p2] h (rL h) (f3_joined h p0 p1 p2) := by
  refine Ct.intro (own := RX3) (L := [(0, .int p0), (1, .long p1), (3, .long p2)]) rfl (by decide) rfl (Nat.le_of_ble_eq_true rfl) fun κ hc hr hq hi hL => ?_
  have hn : ∀ i, i < 5 → i < κ.2.2.2.2.1 := fun i q => hL ▸ q
  unfold f3_joined
  refine v_iload_n (i := 0) hc 0 rfl dX3_joined_0 rfl ?_
  refine v_ite (fun q19 => ?_) (fun q19 => ?_)
  · refine v_tIn hc (19 : Int32) q19 147 dX3_joined_1 (by decide) (by decide) rfl rfl ?_
    refine v_lload_n (i := 1) hc 1 rfl dX3_joined_147 rfl ?_
    refine v_lload_n (i := 3) hc 2 rfl dX3_joined_148 rfl ?_
    refine v_land hc dX3_joined_149 ?_
    exact v_lret hc hq (Nat.le_of_ble_eq_true rfl) (Nat.le_of_ble_eq_true rfl) rfl dX3_joined_150
  · refine v_ite (fun q20 => ?_) (fun q20 => ?_)
    · refine v_tIn hc (20 : Int32) q20 151 dX3_joined_1 (by decide) (by decide) rfl rfl ?_
      refine v_lload_n (i := 1) hc 1 rfl dX3_joined_151 rfl ?_
      refine v_lload_n (i := 3) hc 2 rfl dX3_joined_152 rfl ?_
      refine v_lor hc dX3_joined_153 ?_
      exact v_lret hc hq (Nat.le_of_ble_eq_true rfl) (Nat.le_of_ble_eq_true rfl) rfl dX3_joined_154
    · refine v_ite (fun q21 => ?_) (fun q21 => ?_)
      · refine v_tIn hc (21 : Int32) q21 151 dX3_joined_1 (by decide) (by decide) rfl rfl ?_
        refine v_lload_n (i := 1) hc 1 rfl dX3_joined_151 rfl ?_
        refine v_lload_n (i := 3) hc 2 rfl dX3_joined_152 rfl ?_
        refine v_lor hc dX3_joined_153 ?_
        exact v_lret hc hq (Nat.le_of_ble_eq_true rfl) (Nat.le_of_ble_eq_true rfl) rfl dX3_joined_154
      · refine v_ite (fun q22 => ?_) (fun q22 => ?_)
        · refine v_tIn hc (22 : Int32) q22 72 dX3_joined_1 (by decide) (by decide) rfl rfl ?_
          refine v_lload_n (i := 1) hc 1 rfl dX3_joined_72 rfl ?_
          refine v_lload_n (i := 3) hc 2 rfl dX3_joined_73 rfl ?_
          refine v_lcmp_ge hc 82 dX3_joined_74 dX3_joined_75 rfl ?_ ?_
          · refine v_iconst (x := (0 : Int32)) hc dX3_joined_82 zi_0 ?_
            refine v_cL hc (m_S' (As := [.int (bI false)]) (rest := []) 1 hc hr (fun l D tys base => ct3_bit l D tys base h false) s3_bit w_856 rfl ⟨Nat.le_of_ble_eq_true rfl, Nat.le_of_ble_eq_true rfl⟩ ⟨Nat.le_of_ble_eq_true rfl, Nat.le_of_ble_eq_true rfl⟩ (Nat.le_of_ble_eq_true rfl) dX3_joined_83) fun x83 => ?_
            exact v_lret hc hq (Nat.le_of_ble_eq_true rfl) (Nat.le_of_ble_eq_true rfl) rfl dX3_joined_86
          · refine v_iconst (x := (1 : Int32)) hc dX3_joined_78 zi_1 ?_
            refine v_goto hc 83 dX3_joined_79 rfl ?_
            refine v_cL hc (m_S' (As := [.int (bI true)]) (rest := []) 1 hc hr (fun l D tys base => ct3_bit l D tys base h true) s3_bit w_856 rfl ⟨Nat.le_of_ble_eq_true rfl, Nat.le_of_ble_eq_true rfl⟩ ⟨Nat.le_of_ble_eq_true rfl, Nat.le_of_ble_eq_true rfl⟩ (Nat.le_of_ble_eq_true rfl) dX3_joined_83) fun x83 => ?_
            exact v_lret hc hq (Nat.le_of_ble_eq_true rfl) (Nat.le_of_ble_eq_true rfl) rfl dX3_joined_86
        · refine v_ite (fun q23 => ?_) (fun q23 => ?_)
          · refine v_tIn hc (23 : Int32) q23 87 dX3_joined_1 (by decide) (by decide) rfl rfl ?_
            refine v_lload_n (i := 1) hc 1 rfl dX3_joined_87 rfl ?_
            refine v_lload_n (i := 3) hc 2 rfl dX3_joined_88 rfl ?_
            refine v_lcmp_gt hc 97 dX3_joined_89 dX3_joined_90 rfl ?_ ?_
            · refine v_iconst (x := (0 : Int32)) hc dX3_joined_97 zi_0 ?_
              refine v_cL hc (m_S' (As := [.int (bI false)]) (rest := []) 1 hc hr (fun l D tys base => ct3_bit l D tys base h false) s3_bit w_856 rfl ⟨Nat.le_of_ble_eq_true rfl, Nat.le_of_ble_eq_true rfl⟩ ⟨Nat.le_of_ble_eq_true rfl, Nat.le_of_ble_eq_true rfl⟩ (Nat.le_of_ble_eq_true rfl) dX3_joined_98) fun x98 => ?_
              exact v_lret hc hq (Nat.le_of_ble_eq_true rfl) (Nat.le_of_ble_eq_true rfl) rfl dX3_joined_101
            · refine v_iconst (x := (1 : Int32)) hc dX3_joined_93 zi_1 ?_
              refine v_goto hc 98 dX3_joined_94 rfl ?_
              refine v_cL hc (m_S' (As := [.int (bI true)]) (rest := []) 1 hc hr (fun l D tys base => ct3_bit l D tys base h true) s3_bit w_856 rfl ⟨Nat.le_of_ble_eq_true rfl, Nat.le_of_ble_eq_true rfl⟩ ⟨Nat.le_of_ble_eq_true rfl, Nat.le_of_ble_eq_true rfl⟩ (Nat.le_of_ble_eq_true rfl) dX3_joined_98) fun x98 => ?_
              exact v_lret hc hq (Nat.le_of_ble_eq_true rfl) (Nat.le_of_ble_eq_true rfl) rfl dX3_joined_101
          · refine v_ite (fun q24 => ?_) (fun q24 => ?_)
            · refine v_tIn hc (24 : Int32) q24 102 dX3_joined_1 (by decide) (by decide) rfl rfl ?_
              refine v_lload_n (i := 1) hc 1 rfl dX3_joined_102 rfl ?_
              refine v_lload_n (i := 3) hc 2 rfl dX3_joined_103 rfl ?_
              refine v_lcmp_ne hc 112 dX3_joined_104 dX3_joined_105 rfl ?_ ?_
              · refine v_iconst (x := (0 : Int32)) hc dX3_joined_112 zi_0 ?_
                refine v_cL hc (m_S' (As := [.int (bI false)]) (rest := []) 1 hc hr (fun l D tys base => ct3_bit l D tys base h false) s3_bit w_856 rfl ⟨Nat.le_of_ble_eq_true rfl, Nat.le_of_ble_eq_true rfl⟩ ⟨Nat.le_of_ble_eq_true rfl, Nat.le_of_ble_eq_true rfl⟩ (Nat.le_of_ble_eq_true rfl) dX3_joined_113) fun x113 => ?_
                exact v_lret hc hq (Nat.le_of_ble_eq_true rfl) (Nat.le_of_ble_eq_true rfl) rfl dX3_joined_116
              · refine v_iconst (x := (1 : Int32)) hc dX3_joined_108 zi_1 ?_
                refine v_goto hc 113 dX3_joined_109 rfl ?_
                refine v_cL hc (m_S' (As := [.int (bI true)]) (rest := []) 1 hc hr (fun l D tys base => ct3_bit l D tys base h true) s3_bit w_856 rfl ⟨Nat.le_of_ble_eq_true rfl, Nat.le_of_ble_eq_true rfl⟩ ⟨Nat.le_of_ble_eq_true rfl, Nat.le_of_ble_eq_true rfl⟩ (Nat.le_of_ble_eq_true rfl) dX3_joined_113) fun x113 => ?_
                exact v_lret hc hq (Nat.le_of_ble_eq_true rfl) (Nat.le_of_ble_eq_true rfl) rfl dX3_joined_116
            · refine v_ite (fun q25 => ?_) (fun q25 => ?_)
              · refine v_tIn hc (25 : Int32) q25 117 dX3_joined_1 (by decide) (by decide) rfl rfl ?_
                refine v_lload_n (i := 1) hc 1 rfl dX3_joined_117 rfl ?_
                refine v_lload_n (i := 3) hc 2 rfl dX3_joined_118 rfl ?_
                refine v_lcmp_lt hc 127 dX3_joined_119 dX3_joined_120 rfl ?_ ?_
                · refine v_iconst (x := (0 : Int32)) hc dX3_joined_127 zi_0 ?_
                  refine v_cL hc (m_S' (As := [.int (bI false)]) (rest := []) 1 hc hr (fun l D tys base => ct3_bit l D tys base h false) s3_bit w_856 rfl ⟨Nat.le_of_ble_eq_true rfl, Nat.le_of_ble_eq_true rfl⟩ ⟨Nat.le_of_ble_eq_true rfl, Nat.le_of_ble_eq_true rfl⟩ (Nat.le_of_ble_eq_true rfl) dX3_joined_128) fun x128 => ?_
                  exact v_lret hc hq (Nat.le_of_ble_eq_true rfl) (Nat.le_of_ble_eq_true rfl) rfl dX3_joined_131
                · refine v_iconst (x := (1 : Int32)) hc dX3_joined_123 zi_1 ?_
                  refine v_goto hc 128 dX3_joined_124 rfl ?_
                  refine v_cL hc (m_S' (As := [.int (bI true)]) (rest := []) 1 hc hr (fun l D tys base => ct3_bit l D tys base h true) s3_bit w_856 rfl ⟨Nat.le_of_ble_eq_true rfl, Nat.le_of_ble_eq_true rfl⟩ ⟨Nat.le_of_ble_eq_true rfl, Nat.le_of_ble_eq_true rfl⟩ (Nat.le_of_ble_eq_true rfl) dX3_joined_128) fun x128 => ?_
                  exact v_lret hc hq (Nat.le_of_ble_eq_true rfl) (Nat.le_of_ble_eq_true rfl) rfl dX3_joined_131
              · refine v_ite (fun q26 => ?_) (fun q26 => ?_)
                · refine v_tIn hc (26 : Int32) q26 132 dX3_joined_1 (by decide) (by decide) rfl rfl ?_
                  refine v_lload_n (i := 1) hc 1 rfl dX3_joined_132 rfl ?_
                  refine v_lload_n (i := 3) hc 2 rfl dX3_joined_133 rfl ?_
                  refine v_lcmp_le hc 142 dX3_joined_134 dX3_joined_135 rfl ?_ ?_
                  · refine v_iconst (x := (0 : Int32)) hc dX3_joined_142 zi_0 ?_
                    refine v_cL hc (m_S' (As := [.int (bI false)]) (rest := []) 1 hc hr (fun l D tys base => ct3_bit l D tys base h false) s3_bit w_856 rfl ⟨Nat.le_of_ble_eq_true rfl, Nat.le_of_ble_eq_true rfl⟩ ⟨Nat.le_of_ble_eq_true rfl, Nat.le_of_ble_eq_true rfl⟩ (Nat.le_of_ble_eq_true rfl) dX3_joined_143) fun x143 => ?_
                    exact v_lret hc hq (Nat.le_of_ble_eq_true rfl) (Nat.le_of_ble_eq_true rfl) rfl dX3_joined_146
                  · refine v_iconst (x := (1 : Int32)) hc dX3_joined_138 zi_1 ?_
                    refine v_goto hc 143 dX3_joined_139 rfl ?_
                    refine v_cL hc (m_S' (As := [.int (bI true)]) (rest := []) 1 hc hr (fun l D tys base => ct3_bit l D tys base h true) s3_bit w_856 rfl ⟨Nat.le_of_ble_eq_true rfl, Nat.le_of_ble_eq_true rfl⟩ ⟨Nat.le_of_ble_eq_true rfl, Nat.le_of_ble_eq_true rfl⟩ (Nat.le_of_ble_eq_true rfl) dX3_joined_143) fun x143 => ?_
                    exact v_lret hc hq (Nat.le_of_ble_eq_true rfl) (Nat.le_of_ble_eq_true rfl) rfl dX3_joined_146
                · refine v_ite (fun q27 => ?_) (fun q27 => ?_)
                  · refine v_tIn hc (27 : Int32) q27 60 dX3_joined_1 (by decide) (by decide) rfl rfl ?_
                    refine v_lload_n (i := 1) hc 1 rfl dX3_joined_60 rfl ?_
                    refine v_lload_n (i := 3) hc 2 rfl dX3_joined_61 rfl ?_
                    refine v_ladd hc dX3_joined_62 ?_
                    exact v_lret hc hq (Nat.le_of_ble_eq_true rfl) (Nat.le_of_ble_eq_true rfl) rfl dX3_joined_63
                  · refine v_ite (fun q28 => ?_) (fun q28 => ?_)
                    · refine v_tIn hc (28 : Int32) q28 64 dX3_joined_1 (by decide) (by decide) rfl rfl ?_
                      refine v_lload_n (i := 1) hc 1 rfl dX3_joined_64 rfl ?_
                      refine v_lload_n (i := 3) hc 2 rfl dX3_joined_65 rfl ?_
                      refine v_lsub hc dX3_joined_66 ?_
                      exact v_lret hc hq (Nat.le_of_ble_eq_true rfl) (Nat.le_of_ble_eq_true rfl) rfl dX3_joined_67
                    · refine v_ite (fun q29 => ?_) (fun q29 => ?_)
                      · refine v_tIn hc (29 : Int32) q29 68 dX3_joined_1 (by decide) (by decide) rfl rfl ?_
                        refine v_lload_n (i := 1) hc 1 rfl dX3_joined_68 rfl ?_
                        refine v_lload_n (i := 3) hc 2 rfl dX3_joined_69 rfl ?_
                        refine v_lmul hc dX3_joined_70 ?_
                        exact v_lret hc hq (Nat.le_of_ble_eq_true rfl) (Nat.le_of_ble_eq_true rfl) rfl dX3_joined_71
                      · refine v_tOut hc 151 dX3_joined_1 (by have e19 := lv_neT (a := 19) q19 (by decide); have e20 := lv_neT (a := 20) q20 (by decide); have e21 := lv_neT (a := 21) q21 (by decide); have e22 := lv_neT (a := 22) q22 (by decide); have e23 := lv_neT (a := 23) q23 (by decide); have e24 := lv_neT (a := 24) q24 (by decide); have e25 := lv_neT (a := 25) q25 (by decide); have e26 := lv_neT (a := 26) q26 (by decide); have e27 := lv_neT (a := 27) q27 (by decide); have e28 := lv_neT (a := 28) q28 (by decide); have e29 := lv_neT (a := 29) q29 (by decide); omega) rfl ?_
                        refine v_lload_n (i := 1) hc 1 rfl dX3_joined_151 rfl ?_
                        refine v_lload_n (i := 3) hc 2 rfl dX3_joined_152 rfl ?_
                        refine v_lor hc dX3_joined_153 ?_
                        exact v_lret hc hq (Nat.le_of_ble_eq_true rfl) (Nat.le_of_ble_eq_true rfl) rfl dX3_joined_154
theorem s3_joined : YS yX3_joined cX3_joined 5 (some .long) 3 := ⟨w_861, w_860, w_116, by decide +kernel, by decide +kernel, by decide +kernel⟩
def f3_step (h : AH) (this : Nat) (p0 : Int32) (p1 : Nat) : Option (AH) := (hObj 3 h this).bind fun _ => (if 0 ≤ p0 then (if (10 : Int32) ≤ p0 then (if p0 = (20 : Int32) then (f3_pop h this).bind fun x50 => (if x50.1 = (0 : Int64) then (f3_bit x50.2 true).bind fun x63 => (f3_push x50.2 this x63).bind fun x66 => some x66 else (f3_bit x50.2 false).bind fun x63 => (f3_push x50.2 this x63).bind fun x66 => some x66) else (f3_pop h this).bind fun x73 => (f3_pop x73.2 this).bind fun x78 => (f3_joined x78.2 p0 x78.1 x73.1).bind fun x88 => (f3_push x78.2 this x88).bind fun x91 => some x91) else (aN h p1).bind fun x24 => (if x24 ≤ p0 then (f3_push h this (0 : Int64)).bind fun x36 => some x36 else (aI 0 h p1 p0).bind fun x30 => (f3_push h this x30.toInt64).bind fun x36 => some x36)) else (f3_push h this (((-1 : Int32) - p0).toInt64)).bind fun x9 => some x9)
theorem ob3_step {h : AH} {this : Nat} {p0 : Int32} {p1 : Nat} {x : AH} (e : f3_step h this p0 p1 = some x) : ∃ fs, hObj 3 h this = some fs := by
  unfold f3_step at e
  obtain ⟨fs, h1, -⟩ := bd e
  exact ⟨fs, h1⟩
set_option maxRecDepth 100000 in
theorem ct3_step (l : Launch) (D : va_G) (tys : Tys) (base : Nat) (h : AH) (this : Nat) (p0 : Int32) (p1 : Nat) : Ct l D tys base yX3_step cX3_step 7 none 2 44 0 0 [.ref this, .int p0, .ref p1] h (wV) (f3_step h this p0 p1) := by
  refine Ct.intro (own := RX3) (L := [(0, .ref this), (1, .int p0), (2, .ref p1)]) rfl (by decide) rfl (Nat.le_of_ble_eq_true rfl) fun κ hc hr hq hi hL => ?_
  have hn : ∀ i, i < 7 → i < κ.2.2.2.2.1 := fun i q => hL ▸ q
  unfold f3_step
  refine v_obj ?_
  refine v_iload_n (i := 1) hc 1 rfl dX3_step_0 rfl ?_
  refine v_if_ge hc 15 dX3_step_1 rfl ?_ ?_
  · refine v_iload_n (i := 1) hc 1 rfl dX3_step_15 rfl ?_
    refine v_bipush (x := (10 : Int32)) hc dX3_step_16 zb_10 ?_
    refine v_icmp_ge hc 42 dX3_step_18 rfl ?_ ?_
    · refine v_iload_n (i := 1) hc 1 rfl dX3_step_42 rfl ?_
      refine v_bipush (x := (20 : Int32)) hc dX3_step_43 zb_20 ?_
      refine v_icmp_ne hc 72 dX3_step_45 rfl ?_ ?_
      · refine v_aload_n (i := 0) hc 0 rfl dX3_step_72 rfl ?_
        refine v_cwL hc (m_V' (As := []) (b := this) (rest := []) 0 hc hr (fun l D tys base => ct3_pop l D tys base h this) (fun x hx => ob3_pop hx) rfl s3_pop w_834 rfl ⟨Nat.le_of_ble_eq_true rfl, Nat.le_of_ble_eq_true rfl⟩ ⟨Nat.le_of_ble_eq_true rfl, Nat.le_of_ble_eq_true rfl⟩ (Nat.le_of_ble_eq_true rfl) dX3_step_73) fun x73 => ?_
        refine v_lstore_n (i := 3) (L' := [(3, .long x73.1), (0, .ref this), (1, .int p0), (2, .ref p1)]) hc dX3_step_76 rfl (hn 4 (Nat.le_of_ble_eq_true rfl)) rfl ?_
        refine v_aload_n (i := 0) hc 1 rfl dX3_step_77 rfl ?_
        refine v_cwL hc (m_V' (As := []) (b := this) (rest := []) 0 hc hr (fun l D tys base => ct3_pop l D tys base x73.2 this) (fun x hx => ob3_pop hx) rfl s3_pop w_834 rfl ⟨Nat.le_of_ble_eq_true rfl, Nat.le_of_ble_eq_true rfl⟩ ⟨Nat.le_of_ble_eq_true rfl, Nat.le_of_ble_eq_true rfl⟩ (Nat.le_of_ble_eq_true rfl) dX3_step_78) fun x78 => ?_
        refine v_lstore (i := 5) (L' := [(5, .long x78.1), (3, .long x73.1), (0, .ref this), (1, .int p0), (2, .ref p1)]) hc dX3_step_81 (hn 6 (Nat.le_of_ble_eq_true rfl)) rfl ?_
        refine v_aload_n (i := 0) hc 2 rfl dX3_step_83 rfl ?_
        refine v_iload_n (i := 1) hc 3 rfl dX3_step_84 rfl ?_
        refine v_lload (i := 5) hc 0 rfl dX3_step_85 ?_
        refine v_lload_n (i := 3) hc 1 rfl dX3_step_87 rfl ?_
        refine v_cL hc (m_S' (As := [.int p0, .long x78.1, .long x73.1]) (rest := [.ref this]) 3 hc hr (fun l D tys base => ct3_joined l D tys base x78.2 p0 x78.1 x73.1) s3_joined w_859 rfl ⟨Nat.le_of_ble_eq_true rfl, Nat.le_of_ble_eq_true rfl⟩ ⟨Nat.le_of_ble_eq_true rfl, Nat.le_of_ble_eq_true rfl⟩ (Nat.le_of_ble_eq_true rfl) dX3_step_88) fun x88 => ?_
        refine v_cV hc (m_V' (As := [.long x88]) (b := this) (rest := []) 1 hc hr (fun l D tys base => ct3_push l D tys base x78.2 this x88) (fun x hx => ob3_push hx) rfl s3_push w_852 rfl ⟨Nat.le_of_ble_eq_true rfl, Nat.le_of_ble_eq_true rfl⟩ ⟨Nat.le_of_ble_eq_true rfl, Nat.le_of_ble_eq_true rfl⟩ (Nat.le_of_ble_eq_true rfl) dX3_step_91) fun x91 => ?_
        exact v_vret hc hq (Nat.le_of_ble_eq_true rfl) (Nat.le_of_ble_eq_true rfl) rfl dX3_step_94
      · refine v_aload_n (i := 0) hc 0 rfl dX3_step_48 rfl ?_
        refine v_aload_n (i := 0) hc 0 rfl dX3_step_49 rfl ?_
        refine v_cwL hc (m_V' (As := []) (b := this) (rest := [.ref this]) 0 hc hr (fun l D tys base => ct3_pop l D tys base h this) (fun x hx => ob3_pop hx) rfl s3_pop w_834 rfl ⟨Nat.le_of_ble_eq_true rfl, Nat.le_of_ble_eq_true rfl⟩ ⟨Nat.le_of_ble_eq_true rfl, Nat.le_of_ble_eq_true rfl⟩ (Nat.le_of_ble_eq_true rfl) dX3_step_50) fun x50 => ?_
        refine v_lconst (x := (0 : Int64)) hc dX3_step_53 (by decide) ?_
        refine v_lcmp_ne hc 62 dX3_step_54 dX3_step_55 rfl ?_ ?_
        · refine v_iconst (x := (0 : Int32)) hc dX3_step_62 zi_0 ?_
          refine v_cL hc (m_S' (As := [.int (bI false)]) (rest := [.ref this]) 1 hc hr (fun l D tys base => ct3_bit l D tys base x50.2 false) s3_bit w_856 rfl ⟨Nat.le_of_ble_eq_true rfl, Nat.le_of_ble_eq_true rfl⟩ ⟨Nat.le_of_ble_eq_true rfl, Nat.le_of_ble_eq_true rfl⟩ (Nat.le_of_ble_eq_true rfl) dX3_step_63) fun x63 => ?_
          refine v_cV hc (m_V' (As := [.long x63]) (b := this) (rest := []) 1 hc hr (fun l D tys base => ct3_push l D tys base x50.2 this x63) (fun x hx => ob3_push hx) rfl s3_push w_852 rfl ⟨Nat.le_of_ble_eq_true rfl, Nat.le_of_ble_eq_true rfl⟩ ⟨Nat.le_of_ble_eq_true rfl, Nat.le_of_ble_eq_true rfl⟩ (Nat.le_of_ble_eq_true rfl) dX3_step_66) fun x66 => ?_
          refine v_goto hc 94 dX3_step_69 rfl ?_
          exact v_vret hc hq (Nat.le_of_ble_eq_true rfl) (Nat.le_of_ble_eq_true rfl) rfl dX3_step_94
        · refine v_iconst (x := (1 : Int32)) hc dX3_step_58 zi_1 ?_
          refine v_goto hc 63 dX3_step_59 rfl ?_
          refine v_cL hc (m_S' (As := [.int (bI true)]) (rest := [.ref this]) 1 hc hr (fun l D tys base => ct3_bit l D tys base x50.2 true) s3_bit w_856 rfl ⟨Nat.le_of_ble_eq_true rfl, Nat.le_of_ble_eq_true rfl⟩ ⟨Nat.le_of_ble_eq_true rfl, Nat.le_of_ble_eq_true rfl⟩ (Nat.le_of_ble_eq_true rfl) dX3_step_63) fun x63 => ?_
          refine v_cV hc (m_V' (As := [.long x63]) (b := this) (rest := []) 1 hc hr (fun l D tys base => ct3_push l D tys base x50.2 this x63) (fun x hx => ob3_push hx) rfl s3_push w_852 rfl ⟨Nat.le_of_ble_eq_true rfl, Nat.le_of_ble_eq_true rfl⟩ ⟨Nat.le_of_ble_eq_true rfl, Nat.le_of_ble_eq_true rfl⟩ (Nat.le_of_ble_eq_true rfl) dX3_step_66) fun x66 => ?_
          refine v_goto hc 94 dX3_step_69 rfl ?_
          exact v_vret hc hq (Nat.le_of_ble_eq_true rfl) (Nat.le_of_ble_eq_true rfl) rfl dX3_step_94
    · refine v_aload_n (i := 0) hc 0 rfl dX3_step_21 rfl ?_
      refine v_iload_n (i := 1) hc 1 rfl dX3_step_22 rfl ?_
      refine v_aload_n (i := 2) hc 2 rfl dX3_step_23 rfl ?_
      refine v_alen hc dX3_step_24 fun x24 => ?_
      refine v_icmp_ge hc 35 dX3_step_25 rfl ?_ ?_
      · refine v_lconst (x := (0 : Int64)) hc dX3_step_35 (by decide) ?_
        refine v_cV hc (m_V' (As := [.long (0 : Int64)]) (b := this) (rest := []) 1 hc hr (fun l D tys base => ct3_push l D tys base h this (0 : Int64)) (fun x hx => ob3_push hx) rfl s3_push w_852 rfl ⟨Nat.le_of_ble_eq_true rfl, Nat.le_of_ble_eq_true rfl⟩ ⟨Nat.le_of_ble_eq_true rfl, Nat.le_of_ble_eq_true rfl⟩ (Nat.le_of_ble_eq_true rfl) dX3_step_36) fun x36 => ?_
        refine v_goto hc 94 dX3_step_39 rfl ?_
        exact v_vret hc hq (Nat.le_of_ble_eq_true rfl) (Nat.le_of_ble_eq_true rfl) rfl dX3_step_94
      · refine v_aload_n (i := 2) hc 2 rfl dX3_step_28 rfl ?_
        refine v_iload_n (i := 1) hc 1 rfl dX3_step_29 rfl ?_
        refine v_iald hc dX3_step_30 fun x30 => ?_
        refine v_i2l hc dX3_step_31 ?_
        refine v_goto hc 36 dX3_step_32 rfl ?_
        refine v_cV hc (m_V' (As := [.long x30.toInt64]) (b := this) (rest := []) 1 hc hr (fun l D tys base => ct3_push l D tys base h this x30.toInt64) (fun x hx => ob3_push hx) rfl s3_push w_852 rfl ⟨Nat.le_of_ble_eq_true rfl, Nat.le_of_ble_eq_true rfl⟩ ⟨Nat.le_of_ble_eq_true rfl, Nat.le_of_ble_eq_true rfl⟩ (Nat.le_of_ble_eq_true rfl) dX3_step_36) fun x36 => ?_
        refine v_goto hc 94 dX3_step_39 rfl ?_
        exact v_vret hc hq (Nat.le_of_ble_eq_true rfl) (Nat.le_of_ble_eq_true rfl) rfl dX3_step_94
  · refine v_aload_n (i := 0) hc 0 rfl dX3_step_4 rfl ?_
    refine v_iconst (x := (-1 : Int32)) hc dX3_step_5 zi_m1 ?_
    refine v_iload_n (i := 1) hc 1 rfl dX3_step_6 rfl ?_
    refine v_isub hc dX3_step_7 ?_
    refine v_i2l hc dX3_step_8 ?_
    refine v_cV hc (m_V' (As := [.long (((-1 : Int32) - p0).toInt64)]) (b := this) (rest := []) 1 hc hr (fun l D tys base => ct3_push l D tys base h this (((-1 : Int32) - p0).toInt64)) (fun x hx => ob3_push hx) rfl s3_push w_852 rfl ⟨Nat.le_of_ble_eq_true rfl, Nat.le_of_ble_eq_true rfl⟩ ⟨Nat.le_of_ble_eq_true rfl, Nat.le_of_ble_eq_true rfl⟩ (Nat.le_of_ble_eq_true rfl) dX3_step_9) fun x9 => ?_
    refine v_goto hc 94 dX3_step_12 rfl ?_
    exact v_vret hc hq (Nat.le_of_ble_eq_true rfl) (Nat.le_of_ble_eq_true rfl) rfl dX3_step_94
theorem s3_step : YV yX3_step RX3 cX3_step 7 none 2 := ⟨w_851, w_850, w_33, w_116, rfl, by decide +kernel, by decide +kernel, by decide +kernel⟩
def f3_chanceBy_7 (v0 : Nat) (v1 : Nat) : Nat → AH → Int32 → Option (Int32 × AH)
  | 0, _, _ => none
  | n + 1, h, v2 => (fI 3 3 h v0).bind fun x9 => (if x9 ≤ v2 then some ((500 : Int32), h) else (fR 3 2 h v0).bind fun x17 => (aN h x17).bind fun x20 => (if x20 ≤ v2 then some ((500 : Int32), h) else (fR 3 2 h v0).bind fun x25 => (aI 0 h x25 v2).bind fun x29 => (if x29 = (10 : Int32) then (f3_pop h v0).bind fun x38 => (f3_held x38.2 x38.1).bind fun x41 => some (x41, x38.2) else (if x29 = (17 : Int32) then (f3_pop h v0).bind fun x52 => (if x52.1 = (0 : Int64) then (f3_pop x52.2 v0).bind fun x68 => (if (0 : Int32) = 0 then (some (v2 + (1 : Int32))).bind fun x93 => f3_chanceBy_7 v0 v1 n x68.2 x93 else (f3_held x68.2 x68.1).bind fun x80 => some (x80, x68.2)) else (f3_pop x52.2 v0).bind fun x68 => (if (1 : Int32) = 0 then (some (v2 + (1 : Int32))).bind fun x93 => f3_chanceBy_7 v0 v1 n x68.2 x93 else (f3_held x68.2 x68.1).bind fun x80 => some (x80, x68.2))) else (f3_step h v0 x29 v1).bind fun x90 => (some (v2 + (1 : Int32))).bind fun x93 => f3_chanceBy_7 v0 v1 n x90 x93))))
set_option maxRecDepth 100000 in
theorem vl3_chanceBy_7 {κ : Kx} (hc : CX κ RX3 cX3_chanceBy) (hr : RX κ ({ frames := 3, cells := 0, slots := 0, locals := 70 } : Room)) (hq : QX κ (some .int) 0 0) (hL : 7 = κ.2.2.2.2.1)  (v0 : Nat) (v1 : Nat) : ∀ n (h : AH) (v2 : Int32), V κ (wI) 0 0 7 [(0, .ref v0), (1, .ref v1), (2, .int v2)] [] h (f3_chanceBy_7 v0 v1 n h v2) := by
  have hn : ∀ i, i < 7 → i < κ.2.2.2.2.1 := fun i q => hL ▸ q
  intro n
  induction n with
  | zero => intros; exact v_none
  | succ n ih =>
    intro h v2
    rw [f3_chanceBy_7.eq_2]
    refine v_iload_n (i := 2) hc 2 rfl dX3_chanceBy_7 rfl ?_
    refine v_aload_n (i := 0) hc 0 rfl dX3_chanceBy_8 rfl ?_
    refine v_getV hc kX3 3 (by decide) w_339 rfl dX3_chanceBy_9 (gI rfl fun x9 => ?_)
    refine v_icmp_ge hc 99 dX3_chanceBy_12 rfl ?_ ?_
    · refine v_sipush (x := (500 : Int32)) hc dX3_chanceBy_99 zs_500 ?_
      exact v_iret hc hq rfl rfl (Nat.le_of_ble_eq_true rfl) (Nat.le_of_ble_eq_true rfl) rfl dX3_chanceBy_102
    · refine v_iload_n (i := 2) hc 2 rfl dX3_chanceBy_15 rfl ?_
      refine v_aload_n (i := 0) hc 0 rfl dX3_chanceBy_16 rfl ?_
      refine v_getV hc kX3 2 (by decide) w_338 rfl dX3_chanceBy_17 (gR rfl fun x17 => ?_)
      refine v_alen hc dX3_chanceBy_20 fun x20 => ?_
      refine v_icmp_ge hc 99 dX3_chanceBy_21 rfl ?_ ?_
      · refine v_sipush (x := (500 : Int32)) hc dX3_chanceBy_99 zs_500 ?_
        exact v_iret hc hq rfl rfl (Nat.le_of_ble_eq_true rfl) (Nat.le_of_ble_eq_true rfl) rfl dX3_chanceBy_102
      · refine v_aload_n (i := 0) hc 0 rfl dX3_chanceBy_24 rfl ?_
        refine v_getV hc kX3 2 (by decide) w_338 rfl dX3_chanceBy_25 (gR rfl fun x25 => ?_)
        refine v_iload_n (i := 2) hc 2 rfl dX3_chanceBy_28 rfl ?_
        refine v_iald hc dX3_chanceBy_29 fun x29 => ?_
        refine v_istore_n (i := 3) (L' := [(3, .int x29), (0, .ref v0), (1, .ref v1), (2, .int v2)]) hc dX3_chanceBy_30 rfl (hn 3 (Nat.le_of_ble_eq_true rfl)) rfl ?_
        refine v_iload_n (i := 3) hc 0 rfl dX3_chanceBy_31 rfl ?_
        refine v_bipush (x := (10 : Int32)) hc dX3_chanceBy_32 zb_10 ?_
        refine v_icmp_ne hc 45 dX3_chanceBy_34 rfl ?_ ?_
        · refine v_iload_n (i := 3) hc 0 rfl dX3_chanceBy_45 rfl ?_
          refine v_bipush (x := (17 : Int32)) hc dX3_chanceBy_46 zb_17 ?_
          refine v_icmp_ne hc 87 dX3_chanceBy_48 rfl ?_ ?_
          · refine v_aload_n (i := 0) hc 1 rfl dX3_chanceBy_87 rfl ?_
            refine v_iload_n (i := 3) hc 0 rfl dX3_chanceBy_88 rfl ?_
            refine v_aload_n (i := 1) hc 2 rfl dX3_chanceBy_89 rfl ?_
            refine v_cV hc (m_V' (As := [.int x29, .ref v1]) (b := v0) (rest := []) 2 hc hr (fun l D tys base => ct3_step l D tys base h v0 x29 v1) (fun x hx => ob3_step hx) rfl s3_step w_848 rfl ⟨Nat.le_of_ble_eq_true rfl, Nat.le_of_ble_eq_true rfl⟩ ⟨Nat.le_of_ble_eq_true rfl, Nat.le_of_ble_eq_true rfl⟩ (Nat.le_of_ble_eq_true rfl) dX3_chanceBy_90) fun x90 => ?_
            refine v_iincN (i := 2) (y := (1 : Int32)) (L' := fun z => [(2, .int z), (3, .int x29), (0, .ref v0), (1, .ref v1)]) hc 3 rfl dX3_chanceBy_93 zi_1 (hn 2 (Nat.le_of_ble_eq_true rfl)) (fun _ => rfl) fun x93 => ?_
            refine v_goto hc 7 dX3_chanceBy_96 rfl ?_
            refine v_sub (L' := [(0, .ref v0), (1, .ref v1), (2, .int x93)]) [2, 3, 0] rfl ?_
            exact ih x90 x93
          · refine v_aload_n (i := 0) hc 1 rfl dX3_chanceBy_51 rfl ?_
            refine v_cwL hc (m_V' (As := []) (b := v0) (rest := []) 0 hc hr (fun l D tys base => ct3_pop l D tys base h v0) (fun x hx => ob3_pop hx) rfl s3_pop w_834 rfl ⟨Nat.le_of_ble_eq_true rfl, Nat.le_of_ble_eq_true rfl⟩ ⟨Nat.le_of_ble_eq_true rfl, Nat.le_of_ble_eq_true rfl⟩ (Nat.le_of_ble_eq_true rfl) dX3_chanceBy_52) fun x52 => ?_
            refine v_lconst (x := (0 : Int64)) hc dX3_chanceBy_55 (by decide) ?_
            refine v_lcmp_eq hc 64 dX3_chanceBy_56 dX3_chanceBy_57 rfl ?_ ?_
            · refine v_iconst (x := (0 : Int32)) hc dX3_chanceBy_64 zi_0 ?_
              refine v_istore (i := 4) (L' := [(4, .int (0 : Int32)), (3, .int x29), (0, .ref v0), (1, .ref v1), (2, .int v2)]) hc dX3_chanceBy_65 (hn 4 (Nat.le_of_ble_eq_true rfl)) rfl ?_
              refine v_aload_n (i := 0) hc 2 rfl dX3_chanceBy_67 rfl ?_
              refine v_cwL hc (m_V' (As := []) (b := v0) (rest := []) 0 hc hr (fun l D tys base => ct3_pop l D tys base x52.2 v0) (fun x hx => ob3_pop hx) rfl s3_pop w_834 rfl ⟨Nat.le_of_ble_eq_true rfl, Nat.le_of_ble_eq_true rfl⟩ ⟨Nat.le_of_ble_eq_true rfl, Nat.le_of_ble_eq_true rfl⟩ (Nat.le_of_ble_eq_true rfl) dX3_chanceBy_68) fun x68 => ?_
              refine v_lstore (i := 5) (L' := [(5, .long x68.1), (4, .int (0 : Int32)), (3, .int x29), (0, .ref v0), (1, .ref v1), (2, .int v2)]) hc dX3_chanceBy_71 (hn 6 (Nat.le_of_ble_eq_true rfl)) rfl ?_
              refine v_iload (i := 4) hc 1 rfl dX3_chanceBy_73 ?_
              refine v_if_eq hc 84 dX3_chanceBy_75 rfl ?_ ?_
              · refine v_goto hc 93 dX3_chanceBy_84 rfl ?_
                refine v_iincN (i := 2) (y := (1 : Int32)) (L' := fun z => [(2, .int z), (5, .long x68.1), (4, .int (0 : Int32)), (3, .int x29), (0, .ref v0), (1, .ref v1)]) hc 5 rfl dX3_chanceBy_93 zi_1 (hn 2 (Nat.le_of_ble_eq_true rfl)) (fun _ => rfl) fun x93 => ?_
                refine v_goto hc 7 dX3_chanceBy_96 rfl ?_
                refine v_sub (L' := [(0, .ref v0), (1, .ref v1), (2, .int x93)]) [4, 5, 0] rfl ?_
                exact ih x68.2 x93
              · refine v_lload (i := 5) hc 0 rfl dX3_chanceBy_78 ?_
                refine v_cI hc (m_S' (As := [.long x68.1]) (rest := []) 1 hc hr (fun l D tys base => ct3_held l D tys base x68.2 x68.1) s3_held w_838 rfl ⟨Nat.le_of_ble_eq_true rfl, Nat.le_of_ble_eq_true rfl⟩ ⟨Nat.le_of_ble_eq_true rfl, Nat.le_of_ble_eq_true rfl⟩ (Nat.le_of_ble_eq_true rfl) dX3_chanceBy_80) fun x80 => ?_
                exact v_iret hc hq rfl rfl (Nat.le_of_ble_eq_true rfl) (Nat.le_of_ble_eq_true rfl) rfl dX3_chanceBy_83
            · refine v_iconst (x := (1 : Int32)) hc dX3_chanceBy_60 zi_1 ?_
              refine v_goto hc 65 dX3_chanceBy_61 rfl ?_
              refine v_istore (i := 4) (L' := [(4, .int (1 : Int32)), (3, .int x29), (0, .ref v0), (1, .ref v1), (2, .int v2)]) hc dX3_chanceBy_65 (hn 4 (Nat.le_of_ble_eq_true rfl)) rfl ?_
              refine v_aload_n (i := 0) hc 2 rfl dX3_chanceBy_67 rfl ?_
              refine v_cwL hc (m_V' (As := []) (b := v0) (rest := []) 0 hc hr (fun l D tys base => ct3_pop l D tys base x52.2 v0) (fun x hx => ob3_pop hx) rfl s3_pop w_834 rfl ⟨Nat.le_of_ble_eq_true rfl, Nat.le_of_ble_eq_true rfl⟩ ⟨Nat.le_of_ble_eq_true rfl, Nat.le_of_ble_eq_true rfl⟩ (Nat.le_of_ble_eq_true rfl) dX3_chanceBy_68) fun x68 => ?_
              refine v_lstore (i := 5) (L' := [(5, .long x68.1), (4, .int (1 : Int32)), (3, .int x29), (0, .ref v0), (1, .ref v1), (2, .int v2)]) hc dX3_chanceBy_71 (hn 6 (Nat.le_of_ble_eq_true rfl)) rfl ?_
              refine v_iload (i := 4) hc 1 rfl dX3_chanceBy_73 ?_
              refine v_if_eq hc 84 dX3_chanceBy_75 rfl ?_ ?_
              · refine v_goto hc 93 dX3_chanceBy_84 rfl ?_
                refine v_iincN (i := 2) (y := (1 : Int32)) (L' := fun z => [(2, .int z), (5, .long x68.1), (4, .int (1 : Int32)), (3, .int x29), (0, .ref v0), (1, .ref v1)]) hc 5 rfl dX3_chanceBy_93 zi_1 (hn 2 (Nat.le_of_ble_eq_true rfl)) (fun _ => rfl) fun x93 => ?_
                refine v_goto hc 7 dX3_chanceBy_96 rfl ?_
                refine v_sub (L' := [(0, .ref v0), (1, .ref v1), (2, .int x93)]) [4, 5, 0] rfl ?_
                exact ih x68.2 x93
              · refine v_lload (i := 5) hc 0 rfl dX3_chanceBy_78 ?_
                refine v_cI hc (m_S' (As := [.long x68.1]) (rest := []) 1 hc hr (fun l D tys base => ct3_held l D tys base x68.2 x68.1) s3_held w_838 rfl ⟨Nat.le_of_ble_eq_true rfl, Nat.le_of_ble_eq_true rfl⟩ ⟨Nat.le_of_ble_eq_true rfl, Nat.le_of_ble_eq_true rfl⟩ (Nat.le_of_ble_eq_true rfl) dX3_chanceBy_80) fun x80 => ?_
                exact v_iret hc hq rfl rfl (Nat.le_of_ble_eq_true rfl) (Nat.le_of_ble_eq_true rfl) rfl dX3_chanceBy_83
        · refine v_aload_n (i := 0) hc 1 rfl dX3_chanceBy_37 rfl ?_
          refine v_cwL hc (m_V' (As := []) (b := v0) (rest := []) 0 hc hr (fun l D tys base => ct3_pop l D tys base h v0) (fun x hx => ob3_pop hx) rfl s3_pop w_834 rfl ⟨Nat.le_of_ble_eq_true rfl, Nat.le_of_ble_eq_true rfl⟩ ⟨Nat.le_of_ble_eq_true rfl, Nat.le_of_ble_eq_true rfl⟩ (Nat.le_of_ble_eq_true rfl) dX3_chanceBy_38) fun x38 => ?_
          refine v_cI hc (m_S' (As := [.long x38.1]) (rest := []) 1 hc hr (fun l D tys base => ct3_held l D tys base x38.2 x38.1) s3_held w_838 rfl ⟨Nat.le_of_ble_eq_true rfl, Nat.le_of_ble_eq_true rfl⟩ ⟨Nat.le_of_ble_eq_true rfl, Nat.le_of_ble_eq_true rfl⟩ (Nat.le_of_ble_eq_true rfl) dX3_chanceBy_41) fun x41 => ?_
          exact v_iret hc hq rfl rfl (Nat.le_of_ble_eq_true rfl) (Nat.le_of_ble_eq_true rfl) rfl dX3_chanceBy_44
def f3_chanceBy (h : AH) (this : Nat) (p0 : Nat) : Option (Int32 × AH) := (hObj 3 h this).bind fun _ => (fS 3 5 h this (.int (0 : Int32))).bind fun h2 => f3_chanceBy_7 this p0 FU h2 (0 : Int32)
theorem ob3_chanceBy {h : AH} {this : Nat} {p0 : Nat} {x : Int32 × AH} (e : f3_chanceBy h this p0 = some x) : ∃ fs, hObj 3 h this = some fs := by
  unfold f3_chanceBy at e
  obtain ⟨fs, h1, -⟩ := bd e
  exact ⟨fs, h1⟩
set_option maxRecDepth 100000 in
theorem ct3_chanceBy (l : Launch) (D : va_G) (tys : Tys) (base : Nat) (h : AH) (this : Nat) (p0 : Nat) : Ct l D tys base yX3_chanceBy cX3_chanceBy 7 (some .int) 3 70 0 0 [.ref this, .ref p0] h (wI) (f3_chanceBy h this p0) := by
  refine Ct.intro (own := RX3) (L := [(0, .ref this), (1, .ref p0)]) rfl (by decide) rfl (Nat.le_of_ble_eq_true rfl) fun κ hc hr hq hi hL => ?_
  have hn : ∀ i, i < 7 → i < κ.2.2.2.2.1 := fun i q => hL ▸ q
  unfold f3_chanceBy
  refine v_obj ?_
  refine v_aload_n (i := 0) hc 0 rfl dX3_chanceBy_0 rfl ?_
  refine v_iconst (x := (0 : Int32)) hc dX3_chanceBy_1 zi_0 ?_
  refine v_put hc kX3 5 (by decide) w_341 rfl rfl dX3_chanceBy_2 ⟨rfl, rfl⟩ fun h2 => ?_
  refine v_iconst (x := (0 : Int32)) hc dX3_chanceBy_5 zi_0 ?_
  refine v_istore_n (i := 2) (L' := [(2, .int (0 : Int32)), (0, .ref this), (1, .ref p0)]) hc dX3_chanceBy_6 rfl (hn 2 (Nat.le_of_ble_eq_true rfl)) rfl ?_
  refine v_sub (L' := [(0, .ref this), (1, .ref p0), (2, .int (0 : Int32))]) [1, 2, 0] rfl ?_
  exact vl3_chanceBy_7 hc hr hq hL this p0 FU h2 (0 : Int32)
theorem s3_chanceBy : YV yX3_chanceBy RX3 cX3_chanceBy 7 (some .int) 1 := ⟨w_833, w_831, w_832, w_116, rfl, by decide +kernel, by decide +kernel, by decide +kernel⟩
def f0_placeFrom (h : AH) (this : Nat) (p0 : Nat) (p1 : Int32) (p2 : Int32) : Option (Int32) := (hObj 0 h this).bind fun _ => (if p1 < 0 then some (-1 : Int32) else (fI 0 4 h this).bind fun x6 => (if x6 ≤ p1 then some (-1 : Int32) else (fR 0 3 h this).bind fun x14 => (aN h x14).bind fun x17 => (if p1 < x17 then (fR 7 3 h p0).bind fun x24 => (fR 0 3 h this).bind fun x28 => (aI 0 h x28 p1).bind fun x32 => (f2_placeOf h x24 ((x32 * (10000 : Int32)) + p2)).bind fun x39 => some x39 else some (-1 : Int32))))
theorem ob0_placeFrom {h : AH} {this : Nat} {p0 : Nat} {p1 : Int32} {p2 : Int32} {x : Int32} (e : f0_placeFrom h this p0 p1 p2 = some x) : ∃ fs, hObj 0 h this = some fs := by
  unfold f0_placeFrom at e
  obtain ⟨fs, h1, -⟩ := bd e
  exact ⟨fs, h1⟩
set_option maxRecDepth 100000 in
theorem ct0_placeFrom (l : Launch) (D : va_G) (tys : Tys) (base : Nat) (h : AH) (this : Nat) (p0 : Nat) (p1 : Int32) (p2 : Int32) : Ct l D tys base yX0_placeFrom cX0_placeFrom 4 (some .int) 3 86 0 0 [.ref this, .ref p0, .int p1, .int p2] h (rI h) (f0_placeFrom h this p0 p1 p2) := by
  refine Ct.intro (own := RX0) (L := [(0, .ref this), (1, .ref p0), (2, .int p1), (3, .int p2)]) rfl (by decide) rfl (Nat.le_of_ble_eq_true rfl) fun κ hc hr hq hi hL => ?_
  have hn : ∀ i, i < 4 → i < κ.2.2.2.2.1 := fun i q => hL ▸ q
  unfold f0_placeFrom
  refine v_obj ?_
  refine v_iload_n (i := 2) hc 2 rfl dX0_placeFrom_0 rfl ?_
  refine v_if_lt hc 21 dX0_placeFrom_1 rfl ?_ ?_
  · refine v_iconst (x := (-1 : Int32)) hc dX0_placeFrom_21 zi_m1 ?_
    exact v_iret hc hq rfl rfl (Nat.le_of_ble_eq_true rfl) (Nat.le_of_ble_eq_true rfl) rfl dX0_placeFrom_22
  · refine v_iload_n (i := 2) hc 2 rfl dX0_placeFrom_4 rfl ?_
    refine v_aload_n (i := 0) hc 0 rfl dX0_placeFrom_5 rfl ?_
    refine v_getV hc kX0 4 (by decide) w_366 rfl dX0_placeFrom_6 (gI rfl fun x6 => ?_)
    refine v_icmp_ge hc 21 dX0_placeFrom_9 rfl ?_ ?_
    · refine v_iconst (x := (-1 : Int32)) hc dX0_placeFrom_21 zi_m1 ?_
      exact v_iret hc hq rfl rfl (Nat.le_of_ble_eq_true rfl) (Nat.le_of_ble_eq_true rfl) rfl dX0_placeFrom_22
    · refine v_iload_n (i := 2) hc 2 rfl dX0_placeFrom_12 rfl ?_
      refine v_aload_n (i := 0) hc 0 rfl dX0_placeFrom_13 rfl ?_
      refine v_getV hc kX0 3 (by decide) w_365 rfl dX0_placeFrom_14 (gR rfl fun x14 => ?_)
      refine v_alen hc dX0_placeFrom_17 fun x17 => ?_
      refine v_icmp_lt hc 23 dX0_placeFrom_18 rfl ?_ ?_
      · refine v_aload_n (i := 1) hc 1 rfl dX0_placeFrom_23 rfl ?_
        refine v_getVN hc kX7 3 (by decide) w_187 rfl dX0_placeFrom_24 (gR rfl fun x24 => ?_)
        refine v_aload_n (i := 0) hc 0 rfl dX0_placeFrom_27 rfl ?_
        refine v_getV hc kX0 3 (by decide) w_365 rfl dX0_placeFrom_28 (gR rfl fun x28 => ?_)
        refine v_iload_n (i := 2) hc 2 rfl dX0_placeFrom_31 rfl ?_
        refine v_iald hc dX0_placeFrom_32 fun x32 => ?_
        refine v_sipush (x := (10000 : Int32)) hc dX0_placeFrom_33 zs_10000 ?_
        refine v_imul hc dX0_placeFrom_36 ?_
        refine v_iload_n (i := 3) hc 3 rfl dX0_placeFrom_37 rfl ?_
        refine v_iadd hc dX0_placeFrom_38 ?_
        refine v_cI hc (m_V' (As := [.int ((x32 * (10000 : Int32)) + p2)]) (b := x24) (rest := []) 1 hc hr (fun l D tys base => ct2_placeOf l D tys base h x24 ((x32 * (10000 : Int32)) + p2)) (fun x hx => ob2_placeOf hx) rfl s2_placeOf w_958 rfl ⟨Nat.le_of_ble_eq_true rfl, Nat.le_of_ble_eq_true rfl⟩ ⟨Nat.le_of_ble_eq_true rfl, Nat.le_of_ble_eq_true rfl⟩ (Nat.le_of_ble_eq_true rfl) dX0_placeFrom_39) fun x39 => ?_
        exact v_iret hc hq rfl rfl (Nat.le_of_ble_eq_true rfl) (Nat.le_of_ble_eq_true rfl) rfl dX0_placeFrom_42
      · refine v_iconst (x := (-1 : Int32)) hc dX0_placeFrom_21 zi_m1 ?_
        exact v_iret hc hq rfl rfl (Nat.le_of_ble_eq_true rfl) (Nat.le_of_ble_eq_true rfl) rfl dX0_placeFrom_22
theorem s0_placeFrom : YV yX0_placeFrom RX0 cX0_placeFrom 4 (some .int) 3 := ⟨w_962, w_961, w_36, w_117, rfl, by decide +kernel, by decide +kernel, by decide +kernel⟩
def f0_canWrite_17 (h : AH) (v0 : Nat) (v1 : Nat) (v2 : Int32) (v3 : Int32) : Nat → Int32 → Option (Bool)
  | 0, _ => none
  | n + 1, v4 => (fI 0 4 h v0).bind fun x20 => (if x20 ≤ v4 then some false else (f0_placeFrom h v0 v1 v4 v2).bind fun x31 => (if x31 = v3 then some true else (some (v4 + (1 : Int32))).bind fun x40 => f0_canWrite_17 h v0 v1 v2 v3 n x40))
set_option maxRecDepth 100000 in
theorem vl0_canWrite_17 {κ : Kx} (hc : CX κ RX0 cX0_canWrite) (hr : RX κ ({ frames := 4, cells := 0, slots := 0, locals := 109 } : Room)) (hq : QX κ (some .boolean) 0 0) (hL : 5 = κ.2.2.2.2.1)  (h : AH) (v0 : Nat) (v1 : Nat) (v2 : Int32) (v3 : Int32) : ∀ n (v4 : Int32), V κ (rB h) 0 0 17 [(0, .ref v0), (1, .ref v1), (2, .int v2), (3, .int v3), (4, .int v4)] [] h (f0_canWrite_17 h v0 v1 v2 v3 n v4) := by
  have hn : ∀ i, i < 5 → i < κ.2.2.2.2.1 := fun i q => hL ▸ q
  intro n
  induction n with
  | zero => intros; exact v_none
  | succ n ih =>
    intro v4
    rw [f0_canWrite_17.eq_2]
    refine v_iload (i := 4) hc 4 rfl dX0_canWrite_17 ?_
    refine v_aload_n (i := 0) hc 0 rfl dX0_canWrite_19 rfl ?_
    refine v_getV hc kX0 4 (by decide) w_366 rfl dX0_canWrite_20 (gI rfl fun x20 => ?_)
    refine v_icmp_ge hc 46 dX0_canWrite_23 rfl ?_ ?_
    · refine v_iconst (x := (0 : Int32)) hc dX0_canWrite_46 zi_0 ?_
      exact v_iret (v := bI false) hc hq rfl (nar_b false) (Nat.le_of_ble_eq_true rfl) (Nat.le_of_ble_eq_true rfl) rfl dX0_canWrite_47
    · refine v_aload_n (i := 0) hc 0 rfl dX0_canWrite_26 rfl ?_
      refine v_aload_n (i := 1) hc 1 rfl dX0_canWrite_27 rfl ?_
      refine v_iload (i := 4) hc 4 rfl dX0_canWrite_28 ?_
      refine v_iload_n (i := 2) hc 2 rfl dX0_canWrite_30 rfl ?_
      refine v_cI hc (m_V' (As := [.ref v1, .int v4, .int v2]) (b := v0) (rest := []) 3 hc hr (fun l D tys base => ct0_placeFrom l D tys base h v0 v1 v4 v2) (fun x hx => ob0_placeFrom hx) rfl s0_placeFrom w_959 rfl ⟨Nat.le_of_ble_eq_true rfl, Nat.le_of_ble_eq_true rfl⟩ ⟨Nat.le_of_ble_eq_true rfl, Nat.le_of_ble_eq_true rfl⟩ (Nat.le_of_ble_eq_true rfl) dX0_canWrite_31) fun x31 => ?_
      refine v_iload_n (i := 3) hc 3 rfl dX0_canWrite_34 rfl ?_
      refine v_icmp_ne hc 40 dX0_canWrite_35 rfl ?_ ?_
      · refine v_iincN (i := 4) (y := (1 : Int32)) (L' := fun z => [(4, .int z), (0, .ref v0), (1, .ref v1), (2, .int v2), (3, .int v3)]) hc 4 rfl dX0_canWrite_40 zi_1 (hn 4 (Nat.le_of_ble_eq_true rfl)) (fun _ => rfl) fun x40 => ?_
        refine v_goto hc 17 dX0_canWrite_43 rfl ?_
        refine v_sub (L' := [(0, .ref v0), (1, .ref v1), (2, .int v2), (3, .int v3), (4, .int x40)]) [1, 2, 3, 4, 0] rfl ?_
        exact ih x40
      · refine v_iconst (x := (1 : Int32)) hc dX0_canWrite_38 zi_1 ?_
        exact v_iret (v := bI true) hc hq rfl (nar_b true) (Nat.le_of_ble_eq_true rfl) (Nat.le_of_ble_eq_true rfl) rfl dX0_canWrite_39
def f0_canWrite (h : AH) (this : Nat) (p0 : Nat) (p1 : Int32) (p2 : Int32) : Option (Bool) := (hObj 0 h this).bind fun _ => (fR 7 2 h p0).bind fun x1 => (f2_placeOf h x1 p1).bind fun x5 => (if x5 = p2 then some true else f0_canWrite_17 h this p0 p1 p2 FU (0 : Int32))
theorem ob0_canWrite {h : AH} {this : Nat} {p0 : Nat} {p1 : Int32} {p2 : Int32} {x : Bool} (e : f0_canWrite h this p0 p1 p2 = some x) : ∃ fs, hObj 0 h this = some fs := by
  unfold f0_canWrite at e
  obtain ⟨fs, h1, -⟩ := bd e
  exact ⟨fs, h1⟩
set_option maxRecDepth 100000 in
theorem ct0_canWrite (l : Launch) (D : va_G) (tys : Tys) (base : Nat) (h : AH) (this : Nat) (p0 : Nat) (p1 : Int32) (p2 : Int32) : Ct l D tys base yX0_canWrite cX0_canWrite 5 (some .boolean) 4 109 0 0 [.ref this, .ref p0, .int p1, .int p2] h (rB h) (f0_canWrite h this p0 p1 p2) := by
  refine Ct.intro (own := RX0) (L := [(0, .ref this), (1, .ref p0), (2, .int p1), (3, .int p2)]) rfl (by decide) rfl (Nat.le_of_ble_eq_true rfl) fun κ hc hr hq hi hL => ?_
  have hn : ∀ i, i < 5 → i < κ.2.2.2.2.1 := fun i q => hL ▸ q
  unfold f0_canWrite
  refine v_obj ?_
  refine v_aload_n (i := 1) hc 1 rfl dX0_canWrite_0 rfl ?_
  refine v_getVN hc kX7 2 (by decide) w_185 rfl dX0_canWrite_1 (gR rfl fun x1 => ?_)
  refine v_iload_n (i := 2) hc 2 rfl dX0_canWrite_4 rfl ?_
  refine v_cI hc (m_V' (As := [.int p1]) (b := x1) (rest := []) 1 hc hr (fun l D tys base => ct2_placeOf l D tys base h x1 p1) (fun x hx => ob2_placeOf hx) rfl s2_placeOf w_958 rfl ⟨Nat.le_of_ble_eq_true rfl, Nat.le_of_ble_eq_true rfl⟩ ⟨Nat.le_of_ble_eq_true rfl, Nat.le_of_ble_eq_true rfl⟩ (Nat.le_of_ble_eq_true rfl) dX0_canWrite_5) fun x5 => ?_
  refine v_iload_n (i := 3) hc 3 rfl dX0_canWrite_8 rfl ?_
  refine v_icmp_ne hc 14 dX0_canWrite_9 rfl ?_ ?_
  · refine v_iconst (x := (0 : Int32)) hc dX0_canWrite_14 zi_0 ?_
    refine v_istore (i := 4) (L' := [(4, .int (0 : Int32)), (0, .ref this), (1, .ref p0), (2, .int p1), (3, .int p2)]) hc dX0_canWrite_15 (hn 4 (Nat.le_of_ble_eq_true rfl)) rfl ?_
    refine v_sub (L' := [(0, .ref this), (1, .ref p0), (2, .int p1), (3, .int p2), (4, .int (0 : Int32))]) [1, 2, 3, 4, 0] rfl ?_
    exact vl0_canWrite_17 hc hr hq hL h this p0 p1 p2 FU (0 : Int32)
  · refine v_iconst (x := (1 : Int32)) hc dX0_canWrite_12 zi_1 ?_
    exact v_iret (v := bI true) hc hq rfl (nar_b true) (Nat.le_of_ble_eq_true rfl) (Nat.le_of_ble_eq_true rfl) rfl dX0_canWrite_13
theorem s0_canWrite : YV yX0_canWrite RX0 cX0_canWrite 5 (some .boolean) 3 := ⟨w_957, w_956, w_35, w_117, rfl, by decide +kernel, by decide +kernel, by decide +kernel⟩
def f0_canMake_35 (h : AH) (v0 : Nat) (v1 : Nat) (v3 : Int32) : Nat → Int32 → Option (Bool)
  | 0, _ => none
  | n + 1, v4 => (if v3 ≤ v4 then some true else (f7_dayOfPage h v1 v4).bind fun x46 => (fR 7 5 h v1).bind fun x50 => (f2_placeAt h x50 v4).bind fun x55 => (f0_canWrite h v0 v1 x46 x55).bind fun x58 => (if x58 = true then (some (v4 + (1 : Int32))).bind fun x66 => f0_canMake_35 h v0 v1 v3 n x66 else some false))
set_option maxRecDepth 100000 in
theorem vl0_canMake_35 {κ : Kx} (hc : CX κ RX0 cX0_canMake) (hr : RX κ ({ frames := 5, cells := 0, slots := 0, locals := 133 } : Room)) (hq : QX κ (some .boolean) 0 0) (hL : 5 = κ.2.2.2.2.1)  (h : AH) (v0 : Nat) (v1 : Nat) (v3 : Int32) : ∀ n (v4 : Int32), V κ (rB h) 0 0 35 [(0, .ref v0), (1, .ref v1), (3, .int v3), (4, .int v4)] [] h (f0_canMake_35 h v0 v1 v3 n v4) := by
  have hn : ∀ i, i < 5 → i < κ.2.2.2.2.1 := fun i q => hL ▸ q
  intro n
  induction n with
  | zero => intros; exact v_none
  | succ n ih =>
    intro v4
    rw [f0_canMake_35.eq_2]
    refine v_iload (i := 4) hc 3 rfl dX0_canMake_35 ?_
    refine v_iload_n (i := 3) hc 2 rfl dX0_canMake_37 rfl ?_
    refine v_icmp_ge hc 72 dX0_canMake_38 rfl ?_ ?_
    · refine v_iconst (x := (1 : Int32)) hc dX0_canMake_72 zi_1 ?_
      exact v_iret (v := bI true) hc hq rfl (nar_b true) (Nat.le_of_ble_eq_true rfl) (Nat.le_of_ble_eq_true rfl) rfl dX0_canMake_73
    · refine v_aload_n (i := 0) hc 0 rfl dX0_canMake_41 rfl ?_
      refine v_aload_n (i := 1) hc 1 rfl dX0_canMake_42 rfl ?_
      refine v_aload_n (i := 1) hc 1 rfl dX0_canMake_43 rfl ?_
      refine v_iload (i := 4) hc 3 rfl dX0_canMake_44 ?_
      refine v_cI hc (m_V' (As := [.int v4]) (b := v1) (rest := [.ref v1, .ref v0]) 1 hc hr (fun l D tys base => ct7_dayOfPage l D tys base h v1 v4) (fun x hx => ob7_dayOfPage hx) rfl s7_dayOfPage w_952 rfl ⟨Nat.le_of_ble_eq_true rfl, Nat.le_of_ble_eq_true rfl⟩ ⟨Nat.le_of_ble_eq_true rfl, Nat.le_of_ble_eq_true rfl⟩ (Nat.le_of_ble_eq_true rfl) dX0_canMake_46) fun x46 => ?_
      refine v_aload_n (i := 1) hc 1 rfl dX0_canMake_49 rfl ?_
      refine v_getVN hc kX7 5 (by decide) w_193 rfl dX0_canMake_50 (gR rfl fun x50 => ?_)
      refine v_iload (i := 4) hc 3 rfl dX0_canMake_53 ?_
      refine v_cI hc (m_V' (As := [.int v4]) (b := x50) (rest := [.int x46, .ref v1, .ref v0]) 1 hc hr (fun l D tys base => ct2_placeAt l D tys base h x50 v4) (fun x hx => ob2_placeAt hx) rfl s2_placeAt w_953 rfl ⟨Nat.le_of_ble_eq_true rfl, Nat.le_of_ble_eq_true rfl⟩ ⟨Nat.le_of_ble_eq_true rfl, Nat.le_of_ble_eq_true rfl⟩ (Nat.le_of_ble_eq_true rfl) dX0_canMake_55) fun x55 => ?_
      refine v_cB hc (m_V' (As := [.ref v1, .int x46, .int x55]) (b := v0) (rest := []) 3 hc hr (fun l D tys base => ct0_canWrite l D tys base h v0 v1 x46 x55) (fun x hx => ob0_canWrite hx) rfl s0_canWrite w_954 rfl ⟨Nat.le_of_ble_eq_true rfl, Nat.le_of_ble_eq_true rfl⟩ ⟨Nat.le_of_ble_eq_true rfl, Nat.le_of_ble_eq_true rfl⟩ (Nat.le_of_ble_eq_true rfl) dX0_canMake_58) fun x58 => ?_
      refine v_ifb_ne hc 66 dX0_canMake_61 rfl ?_ ?_
      · refine v_iincN (i := 4) (y := (1 : Int32)) (L' := fun z => [(4, .int z), (0, .ref v0), (1, .ref v1), (3, .int v3)]) hc 3 rfl dX0_canMake_66 zi_1 (hn 4 (Nat.le_of_ble_eq_true rfl)) (fun _ => rfl) fun x66 => ?_
        refine v_goto hc 35 dX0_canMake_69 rfl ?_
        refine v_sub (L' := [(0, .ref v0), (1, .ref v1), (3, .int v3), (4, .int x66)]) [1, 2, 3, 0] rfl ?_
        exact ih x66
      · refine v_iconst (x := (0 : Int32)) hc dX0_canMake_64 zi_0 ?_
        exact v_iret (v := bI false) hc hq rfl (nar_b false) (Nat.le_of_ble_eq_true rfl) (Nat.le_of_ble_eq_true rfl) rfl dX0_canMake_65
def f0_canMake (h : AH) (this : Nat) (p0 : Nat) (p1 : Int32) : Option (Bool) := (hObj 0 h this).bind fun _ => (fR 7 4 h p0).bind fun x1 => (f5_at h x1 p1 (6 : Int32)).bind fun x7 => (fI 0 2 h this).bind fun x11 => (if (x7 &&& (x11 ^^^ (-1 : Int32))) = 0 then (f7_pagesEnd h p0 p1).bind fun x24 => (f7_firstPage h p0 p1).bind fun x30 => f0_canMake_35 h this p0 x24 FU x30 else some false)
theorem ob0_canMake {h : AH} {this : Nat} {p0 : Nat} {p1 : Int32} {x : Bool} (e : f0_canMake h this p0 p1 = some x) : ∃ fs, hObj 0 h this = some fs := by
  unfold f0_canMake at e
  obtain ⟨fs, h1, -⟩ := bd e
  exact ⟨fs, h1⟩
set_option maxRecDepth 100000 in
theorem ct0_canMake (l : Launch) (D : va_G) (tys : Tys) (base : Nat) (h : AH) (this : Nat) (p0 : Nat) (p1 : Int32) : Ct l D tys base yX0_canMake cX0_canMake 5 (some .boolean) 5 133 0 0 [.ref this, .ref p0, .int p1] h (rB h) (f0_canMake h this p0 p1) := by
  refine Ct.intro (own := RX0) (L := [(0, .ref this), (1, .ref p0), (2, .int p1)]) rfl (by decide) rfl (Nat.le_of_ble_eq_true rfl) fun κ hc hr hq hi hL => ?_
  have hn : ∀ i, i < 5 → i < κ.2.2.2.2.1 := fun i q => hL ▸ q
  unfold f0_canMake
  refine v_obj ?_
  refine v_aload_n (i := 1) hc 1 rfl dX0_canMake_0 rfl ?_
  refine v_getVN hc kX7 4 (by decide) w_190 rfl dX0_canMake_1 (gR rfl fun x1 => ?_)
  refine v_iload_n (i := 2) hc 2 rfl dX0_canMake_4 rfl ?_
  refine v_bipush (x := (6 : Int32)) hc dX0_canMake_5 zb_6 ?_
  refine v_cI hc (m_V' (As := [.int p1, .int (6 : Int32)]) (b := x1) (rest := []) 2 hc hr (fun l D tys base => ct5_at l D tys base h x1 p1 (6 : Int32)) (fun x hx => ob5_at hx) rfl s5_at w_949 rfl ⟨Nat.le_of_ble_eq_true rfl, Nat.le_of_ble_eq_true rfl⟩ ⟨Nat.le_of_ble_eq_true rfl, Nat.le_of_ble_eq_true rfl⟩ (Nat.le_of_ble_eq_true rfl) dX0_canMake_7) fun x7 => ?_
  refine v_aload_n (i := 0) hc 0 rfl dX0_canMake_10 rfl ?_
  refine v_getV hc kX0 2 (by decide) w_363 rfl dX0_canMake_11 (gI rfl fun x11 => ?_)
  refine v_iconst (x := (-1 : Int32)) hc dX0_canMake_14 zi_m1 ?_
  refine v_ixor hc dX0_canMake_15 ?_
  refine v_iand hc dX0_canMake_16 ?_
  refine v_if_eq hc 22 dX0_canMake_17 rfl ?_ ?_
  · refine v_aload_n (i := 1) hc 1 rfl dX0_canMake_22 rfl ?_
    refine v_iload_n (i := 2) hc 2 rfl dX0_canMake_23 rfl ?_
    refine v_cI hc (m_V' (As := [.int p1]) (b := p0) (rest := []) 1 hc hr (fun l D tys base => ct7_pagesEnd l D tys base h p0 p1) (fun x hx => ob7_pagesEnd hx) rfl s7_pagesEnd w_950 rfl ⟨Nat.le_of_ble_eq_true rfl, Nat.le_of_ble_eq_true rfl⟩ ⟨Nat.le_of_ble_eq_true rfl, Nat.le_of_ble_eq_true rfl⟩ (Nat.le_of_ble_eq_true rfl) dX0_canMake_24) fun x24 => ?_
    refine v_istore_n (i := 3) (L' := [(3, .int x24), (0, .ref this), (1, .ref p0), (2, .int p1)]) hc dX0_canMake_27 rfl (hn 3 (Nat.le_of_ble_eq_true rfl)) rfl ?_
    refine v_aload_n (i := 1) hc 2 rfl dX0_canMake_28 rfl ?_
    refine v_iload_n (i := 2) hc 3 rfl dX0_canMake_29 rfl ?_
    refine v_cI hc (m_V' (As := [.int p1]) (b := p0) (rest := []) 1 hc hr (fun l D tys base => ct7_firstPage l D tys base h p0 p1) (fun x hx => ob7_firstPage hx) rfl s7_firstPage w_951 rfl ⟨Nat.le_of_ble_eq_true rfl, Nat.le_of_ble_eq_true rfl⟩ ⟨Nat.le_of_ble_eq_true rfl, Nat.le_of_ble_eq_true rfl⟩ (Nat.le_of_ble_eq_true rfl) dX0_canMake_30) fun x30 => ?_
    refine v_istore (i := 4) (L' := [(4, .int x30), (3, .int x24), (0, .ref this), (1, .ref p0), (2, .int p1)]) hc dX0_canMake_33 (hn 4 (Nat.le_of_ble_eq_true rfl)) rfl ?_
    refine v_sub (L' := [(0, .ref this), (1, .ref p0), (3, .int x24), (4, .int x30)]) [2, 3, 1, 0] rfl ?_
    exact vl0_canMake_35 hc hr hq hL h this p0 x24 FU x30
  · refine v_iconst (x := (0 : Int32)) hc dX0_canMake_20 zi_0 ?_
    exact v_iret (v := bI false) hc hq rfl (nar_b false) (Nat.le_of_ble_eq_true rfl) (Nat.le_of_ble_eq_true rfl) rfl dX0_canMake_21
theorem s0_canMake : YV yX0_canMake RX0 cX0_canMake 5 (some .boolean) 2 := ⟨w_948, w_946, w_947, w_117, rfl, by decide +kernel, by decide +kernel, by decide +kernel⟩
def f0_placeFor_45 (h : AH) (v0 : Nat) (v1 : Nat) (v2 : Int32) : Nat → Int32 → Int32 → Option (Int32)
  | 0, _, _ => none
  | n + 1, v5, v6 => (fI 0 4 h v0).bind fun x48 => (if x48 ≤ v6 then some v5 else (if v5 = (-1 : Int32) then (f0_placeFrom h v0 v1 v6 v2).bind fun x65 => (some (v6 + (1 : Int32))).bind fun x70 => f0_placeFor_45 h v0 v1 v2 n x65 x70 else some v5))
set_option maxRecDepth 100000 in
theorem vl0_placeFor_45 {κ : Kx} (hc : CX κ RX0 cX0_placeFor) (hr : RX κ ({ frames := 4, cells := 0, slots := 0, locals := 109 } : Room)) (hq : QX κ (some .int) 0 0) (hL : 7 = κ.2.2.2.2.1)  (h : AH) (v0 : Nat) (v1 : Nat) (v2 : Int32) : ∀ n (v5 : Int32) (v6 : Int32), V κ (rI h) 0 0 45 [(0, .ref v0), (1, .ref v1), (2, .int v2), (5, .int v5), (6, .int v6)] [] h (f0_placeFor_45 h v0 v1 v2 n v5 v6) := by
  have hn : ∀ i, i < 7 → i < κ.2.2.2.2.1 := fun i q => hL ▸ q
  intro n
  induction n with
  | zero => intros; exact v_none
  | succ n ih =>
    intro v5 v6
    rw [f0_placeFor_45.eq_2]
    refine v_iload (i := 6) hc 4 rfl dX0_placeFor_45 ?_
    refine v_aload_n (i := 0) hc 0 rfl dX0_placeFor_47 rfl ?_
    refine v_getV hc kX0 4 (by decide) w_366 rfl dX0_placeFor_48 (gI rfl fun x48 => ?_)
    refine v_icmp_ge hc 76 dX0_placeFor_51 rfl ?_ ?_
    · refine v_iload (i := 5) hc 3 rfl dX0_placeFor_76 ?_
      exact v_iret hc hq rfl rfl (Nat.le_of_ble_eq_true rfl) (Nat.le_of_ble_eq_true rfl) rfl dX0_placeFor_78
    · refine v_iload (i := 5) hc 3 rfl dX0_placeFor_54 ?_
      refine v_iconst (x := (-1 : Int32)) hc dX0_placeFor_56 zi_m1 ?_
      refine v_icmp_ne hc 76 dX0_placeFor_57 rfl ?_ ?_
      · refine v_iload (i := 5) hc 3 rfl dX0_placeFor_76 ?_
        exact v_iret hc hq rfl rfl (Nat.le_of_ble_eq_true rfl) (Nat.le_of_ble_eq_true rfl) rfl dX0_placeFor_78
      · refine v_aload_n (i := 0) hc 0 rfl dX0_placeFor_60 rfl ?_
        refine v_aload_n (i := 1) hc 1 rfl dX0_placeFor_61 rfl ?_
        refine v_iload (i := 6) hc 4 rfl dX0_placeFor_62 ?_
        refine v_iload_n (i := 2) hc 2 rfl dX0_placeFor_64 rfl ?_
        refine v_cI hc (m_V' (As := [.ref v1, .int v6, .int v2]) (b := v0) (rest := []) 3 hc hr (fun l D tys base => ct0_placeFrom l D tys base h v0 v1 v6 v2) (fun x hx => ob0_placeFrom hx) rfl s0_placeFrom w_959 rfl ⟨Nat.le_of_ble_eq_true rfl, Nat.le_of_ble_eq_true rfl⟩ ⟨Nat.le_of_ble_eq_true rfl, Nat.le_of_ble_eq_true rfl⟩ (Nat.le_of_ble_eq_true rfl) dX0_placeFor_65) fun x65 => ?_
        refine v_istore (i := 5) (L' := [(5, .int x65), (0, .ref v0), (1, .ref v1), (2, .int v2), (6, .int v6)]) hc dX0_placeFor_68 (hn 5 (Nat.le_of_ble_eq_true rfl)) rfl ?_
        refine v_iincN (i := 6) (y := (1 : Int32)) (L' := fun z => [(6, .int z), (5, .int x65), (0, .ref v0), (1, .ref v1), (2, .int v2)]) hc 4 rfl dX0_placeFor_70 zi_1 (hn 6 (Nat.le_of_ble_eq_true rfl)) (fun _ => rfl) fun x70 => ?_
        refine v_goto hc 45 dX0_placeFor_73 rfl ?_
        refine v_sub (L' := [(0, .ref v0), (1, .ref v1), (2, .int v2), (5, .int x65), (6, .int x70)]) [2, 3, 4, 1, 0] rfl ?_
        exact ih x65 x70
def f0_placeFor (h : AH) (this : Nat) (p0 : Nat) (p1 : Int32) (p2 : Bool) (p3 : Int32) : Option (Int32) := (hObj 0 h this).bind fun _ => (if p2 = true then (fI 0 4 h this).bind fun x5 => (if x5 ≤ 0 then some (-1 : Int32) else (fI 0 4 h this).bind fun x19 => if x19 = 0 then none else (some ((p3 >>> ((16 : Int32) &&& 31)) - (p3 >>> ((16 : Int32) &&& 31)) / x19 * x19)).bind fun z22 => (f0_placeFrom h this p0 z22 p1).bind fun x24 => some x24) else (fR 7 2 h p0).bind fun x33 => (f2_placeOf h x33 p1).bind fun x37 => f0_placeFor_45 h this p0 p1 FU x37 (0 : Int32))
theorem ob0_placeFor {h : AH} {this : Nat} {p0 : Nat} {p1 : Int32} {p2 : Bool} {p3 : Int32} {x : Int32} (e : f0_placeFor h this p0 p1 p2 p3 = some x) : ∃ fs, hObj 0 h this = some fs := by
  unfold f0_placeFor at e
  obtain ⟨fs, h1, -⟩ := bd e
  exact ⟨fs, h1⟩
set_option maxRecDepth 100000 in
theorem ct0_placeFor (l : Launch) (D : va_G) (tys : Tys) (base : Nat) (h : AH) (this : Nat) (p0 : Nat) (p1 : Int32) (p2 : Bool) (p3 : Int32) : Ct l D tys base yX0_placeFor cX0_placeFor 7 (some .int) 4 109 0 0 [.ref this, .ref p0, .int p1, .int (bI p2), .int p3] h (rI h) (f0_placeFor h this p0 p1 p2 p3) := by
  refine Ct.intro (own := RX0) (L := [(0, .ref this), (1, .ref p0), (2, .int p1), (3, .int (bI p2)), (4, .int p3)]) rfl (by decide) rfl (Nat.le_of_ble_eq_true rfl) fun κ hc hr hq hi hL => ?_
  have hn : ∀ i, i < 7 → i < κ.2.2.2.2.1 := fun i q => hL ▸ q
  unfold f0_placeFor
  refine v_obj ?_
  refine v_iload_n (i := 3) hc 3 rfl dX0_placeFor_0 rfl ?_
  refine v_ifb_eq hc 32 dX0_placeFor_1 rfl ?_ ?_
  · refine v_aload_n (i := 1) hc 1 rfl dX0_placeFor_32 rfl ?_
    refine v_getVN hc kX7 2 (by decide) w_185 rfl dX0_placeFor_33 (gR rfl fun x33 => ?_)
    refine v_iload_n (i := 2) hc 2 rfl dX0_placeFor_36 rfl ?_
    refine v_cI hc (m_V' (As := [.int p1]) (b := x33) (rest := []) 1 hc hr (fun l D tys base => ct2_placeOf l D tys base h x33 p1) (fun x hx => ob2_placeOf hx) rfl s2_placeOf w_958 rfl ⟨Nat.le_of_ble_eq_true rfl, Nat.le_of_ble_eq_true rfl⟩ ⟨Nat.le_of_ble_eq_true rfl, Nat.le_of_ble_eq_true rfl⟩ (Nat.le_of_ble_eq_true rfl) dX0_placeFor_37) fun x37 => ?_
    refine v_istore (i := 5) (L' := [(5, .int x37), (0, .ref this), (1, .ref p0), (2, .int p1), (3, .int (bI p2)), (4, .int p3)]) hc dX0_placeFor_40 (hn 5 (Nat.le_of_ble_eq_true rfl)) rfl ?_
    refine v_iconst (x := (0 : Int32)) hc dX0_placeFor_42 zi_0 ?_
    refine v_istore (i := 6) (L' := [(6, .int (0 : Int32)), (5, .int x37), (0, .ref this), (1, .ref p0), (2, .int p1), (3, .int (bI p2)), (4, .int p3)]) hc dX0_placeFor_43 (hn 6 (Nat.le_of_ble_eq_true rfl)) rfl ?_
    refine v_sub (L' := [(0, .ref this), (1, .ref p0), (2, .int p1), (5, .int x37), (6, .int (0 : Int32))]) [2, 3, 4, 1, 0] rfl ?_
    exact vl0_placeFor_45 hc hr hq hL h this p0 p1 FU x37 (0 : Int32)
  · refine v_aload_n (i := 0) hc 0 rfl dX0_placeFor_4 rfl ?_
    refine v_getV hc kX0 4 (by decide) w_366 rfl dX0_placeFor_5 (gI rfl fun x5 => ?_)
    refine v_if_le hc 30 dX0_placeFor_8 rfl ?_ ?_
    · refine v_iconst (x := (-1 : Int32)) hc dX0_placeFor_30 zi_m1 ?_
      exact v_iret hc hq rfl rfl (Nat.le_of_ble_eq_true rfl) (Nat.le_of_ble_eq_true rfl) rfl dX0_placeFor_31
    · refine v_aload_n (i := 0) hc 0 rfl dX0_placeFor_11 rfl ?_
      refine v_aload_n (i := 1) hc 1 rfl dX0_placeFor_12 rfl ?_
      refine v_iload (i := 4) hc 4 rfl dX0_placeFor_13 ?_
      refine v_bipush (x := (16 : Int32)) hc dX0_placeFor_15 zb_16 ?_
      refine v_ishr hc dX0_placeFor_17 ?_
      refine v_aload_n (i := 0) hc 0 rfl dX0_placeFor_18 rfl ?_
      refine v_getV hc kX0 4 (by decide) w_366 rfl dX0_placeFor_19 (gI rfl fun x19 => ?_)
      refine v_iremN hc dX0_placeFor_22 fun z22 => ?_
      refine v_iload_n (i := 2) hc 2 rfl dX0_placeFor_23 rfl ?_
      refine v_cI hc (m_V' (As := [.ref p0, .int z22, .int p1]) (b := this) (rest := []) 3 hc hr (fun l D tys base => ct0_placeFrom l D tys base h this p0 z22 p1) (fun x hx => ob0_placeFrom hx) rfl s0_placeFrom w_959 rfl ⟨Nat.le_of_ble_eq_true rfl, Nat.le_of_ble_eq_true rfl⟩ ⟨Nat.le_of_ble_eq_true rfl, Nat.le_of_ble_eq_true rfl⟩ (Nat.le_of_ble_eq_true rfl) dX0_placeFor_24) fun x24 => ?_
      refine v_goto hc 31 dX0_placeFor_27 rfl ?_
      exact v_iret hc hq rfl rfl (Nat.le_of_ble_eq_true rfl) (Nat.le_of_ble_eq_true rfl) rfl dX0_placeFor_31
theorem s0_placeFor : YV yX0_placeFor RX0 cX0_placeFor 7 (some .int) 4 := ⟨w_1003, w_1002, w_39, w_117, rfl, by decide +kernel, by decide +kernel, by decide +kernel⟩
def f0_writePages_112 (k10 : AH → Int32 → Int32 → Int32 → Option (Int32 × AH)) (h : AH) (v0 : Nat) (v1 : Nat) (v2 : Int32) (v3 : Int32) (v4 : Int32) (v6 : Bool) (v7 : Int32) (v8 : Int32) (v9 : Int32) (v11 : Int32) (v12 : Int32) (v13 : Bool) : Option (Int32 × AH) := (if v13 = true then (if v6 = true then (fR 7 5 h v1).bind fun x123 => (f2_insert h x123 ((v2 * (10000 : Int32)) + v11) v12).bind fun x136 => (some (v9 + (1 : Int32))).bind fun x140 => k10 x136.2 v7 v8 x140 else (some (v9 + (1 : Int32))).bind fun x140 => k10 h v7 v8 x140) else (some (v9 + (1 : Int32))).bind fun x140 => k10 h v7 v8 x140)
set_option maxRecDepth 100000 in
theorem vl0_writePages_112 {κ : Kx} (hc : CX κ RX0 cX0_writePages) (hr : RX κ ({ frames := 5, cells := 0, slots := 0, locals := 135 } : Room)) (hq : QX κ (some .int) 0 0) (hL : 14 = κ.2.2.2.2.1) (k10 : AH → Int32 → Int32 → Int32 → Option (Int32 × AH)) (h : AH) (v0 : Nat) (v1 : Nat) (v2 : Int32) (v3 : Int32) (v4 : Int32) (v6 : Bool) (hk10 : ∀ (h : AH) (v7 : Int32) (v8 : Int32) (v9 : Int32), V κ (wI) 0 0 10 [(0, .ref v0), (1, .ref v1), (2, .int v2), (3, .int v3), (4, .int v4), (6, .int (bI v6)), (7, .int v7), (8, .int v8), (9, .int v9)] [] h (k10 h v7 v8 v9)) (v7 : Int32) (v8 : Int32) (v9 : Int32) (v11 : Int32) (v12 : Int32) (v13 : Bool) : V κ (wI) 0 0 112 [(0, .ref v0), (1, .ref v1), (2, .int v2), (3, .int v3), (4, .int v4), (6, .int (bI v6)), (7, .int v7), (8, .int v8), (9, .int v9), (11, .int v11), (12, .int v12), (13, .int (bI v13))] [] h (f0_writePages_112 k10 h v0 v1 v2 v3 v4 v6 v7 v8 v9 v11 v12 v13) := by
  have hn : ∀ i, i < 14 → i < κ.2.2.2.2.1 := fun i q => hL ▸ q
  unfold f0_writePages_112
  refine v_iload (i := 13) hc 11 rfl dX0_writePages_112 ?_
  refine v_ifb_eq hc 140 dX0_writePages_114 rfl ?_ ?_
  · refine v_iincN (i := 9) (y := (1 : Int32)) (L' := fun z => [(9, .int z), (0, .ref v0), (1, .ref v1), (2, .int v2), (3, .int v3), (4, .int v4), (6, .int (bI v6)), (7, .int v7), (8, .int v8), (11, .int v11), (12, .int v12), (13, .int (bI v13))]) hc 8 rfl dX0_writePages_140 zi_1 (hn 9 (Nat.le_of_ble_eq_true rfl)) (fun _ => rfl) fun x140 => ?_
    refine v_goto hc 10 dX0_writePages_143 rfl ?_
    refine v_sub (L' := [(0, .ref v0), (1, .ref v1), (2, .int v2), (3, .int v3), (4, .int v4), (6, .int (bI v6)), (7, .int v7), (8, .int v8), (9, .int x140)]) [1, 2, 3, 4, 5, 6, 7, 8, 0] rfl ?_
    exact hk10 h v7 v8 x140
  · refine v_iload (i := 6) hc 5 rfl dX0_writePages_117 ?_
    refine v_ifb_eq hc 140 dX0_writePages_119 rfl ?_ ?_
    · refine v_iincN (i := 9) (y := (1 : Int32)) (L' := fun z => [(9, .int z), (0, .ref v0), (1, .ref v1), (2, .int v2), (3, .int v3), (4, .int v4), (6, .int (bI v6)), (7, .int v7), (8, .int v8), (11, .int v11), (12, .int v12), (13, .int (bI v13))]) hc 8 rfl dX0_writePages_140 zi_1 (hn 9 (Nat.le_of_ble_eq_true rfl)) (fun _ => rfl) fun x140 => ?_
      refine v_goto hc 10 dX0_writePages_143 rfl ?_
      refine v_sub (L' := [(0, .ref v0), (1, .ref v1), (2, .int v2), (3, .int v3), (4, .int v4), (6, .int (bI v6)), (7, .int v7), (8, .int v8), (9, .int x140)]) [1, 2, 3, 4, 5, 6, 7, 8, 0] rfl ?_
      exact hk10 h v7 v8 x140
    · refine v_aload_n (i := 1) hc 1 rfl dX0_writePages_122 rfl ?_
      refine v_getVN hc kX7 5 (by decide) w_193 rfl dX0_writePages_123 (gR rfl fun x123 => ?_)
      refine v_iload_n (i := 2) hc 2 rfl dX0_writePages_126 rfl ?_
      refine v_sipush (x := (10000 : Int32)) hc dX0_writePages_127 zs_10000 ?_
      refine v_imul hc dX0_writePages_130 ?_
      refine v_iload (i := 11) hc 9 rfl dX0_writePages_131 ?_
      refine v_iadd hc dX0_writePages_133 ?_
      refine v_iload (i := 12) hc 10 rfl dX0_writePages_134 ?_
      refine v_cwI hc (m_V' (As := [.int ((v2 * (10000 : Int32)) + v11), .int v12]) (b := x123) (rest := []) 2 hc hr (fun l D tys base => ct2_insert l D tys base h x123 ((v2 * (10000 : Int32)) + v11) v12) (fun x hx => ob2_insert hx) rfl s2_insert w_1005 rfl ⟨Nat.le_of_ble_eq_true rfl, Nat.le_of_ble_eq_true rfl⟩ ⟨Nat.le_of_ble_eq_true rfl, Nat.le_of_ble_eq_true rfl⟩ (Nat.le_of_ble_eq_true rfl) dX0_writePages_136) fun x136 => ?_
      refine v_pop hc dX0_writePages_139 rfl ?_
      refine v_iincN (i := 9) (y := (1 : Int32)) (L' := fun z => [(9, .int z), (0, .ref v0), (1, .ref v1), (2, .int v2), (3, .int v3), (4, .int v4), (6, .int (bI v6)), (7, .int v7), (8, .int v8), (11, .int v11), (12, .int v12), (13, .int (bI v13))]) hc 8 rfl dX0_writePages_140 zi_1 (hn 9 (Nat.le_of_ble_eq_true rfl)) (fun _ => rfl) fun x140 => ?_
      refine v_goto hc 10 dX0_writePages_143 rfl ?_
      refine v_sub (L' := [(0, .ref v0), (1, .ref v1), (2, .int v2), (3, .int v3), (4, .int v4), (6, .int (bI v6)), (7, .int v7), (8, .int v8), (9, .int x140)]) [1, 2, 3, 4, 5, 6, 7, 8, 0] rfl ?_
      exact hk10 x136.2 v7 v8 x140
def f0_writePages_58 (k10 : AH → Int32 → Int32 → Int32 → Option (Int32 × AH)) (h : AH) (v0 : Nat) (v1 : Nat) (v2 : Int32) (v3 : Int32) (v4 : Int32) (v6 : Bool) (v7 : Int32) (v8 : Int32) (v9 : Int32) (v11 : Int32) (s0 : Nat) (s1 : Nat) (s2 : Int32) (s3 : Bool) : Option (Int32 × AH) := (f0_placeFor h s0 s1 s2 s3 v7).bind fun x60 => (if x60 = (-1 : Int32) then (if (0 : Int32) = 0 then f0_writePages_112 k10 h v0 v1 v2 v3 v4 v6 v7 v8 v9 v11 x60 false else (some (v8 + (1 : Int32))).bind fun x109 => f0_writePages_112 k10 h v0 v1 v2 v3 v4 v6 v7 x109 v9 v11 x60 false) else (if (9999 : Int32) < v11 then (if (0 : Int32) = 0 then f0_writePages_112 k10 h v0 v1 v2 v3 v4 v6 v7 v8 v9 v11 x60 false else (some (v8 + (1 : Int32))).bind fun x109 => f0_writePages_112 k10 h v0 v1 v2 v3 v4 v6 v7 x109 v9 v11 x60 false) else (fR 7 5 h v1).bind fun x80 => (f2_hasKey h x80 ((v2 * (10000 : Int32)) + v11)).bind fun x91 => (if x91 = true then (if (0 : Int32) = 0 then f0_writePages_112 k10 h v0 v1 v2 v3 v4 v6 v7 v8 v9 v11 x60 false else (some (v8 + (1 : Int32))).bind fun x109 => f0_writePages_112 k10 h v0 v1 v2 v3 v4 v6 v7 x109 v9 v11 x60 false) else (if (1 : Int32) = 0 then f0_writePages_112 k10 h v0 v1 v2 v3 v4 v6 v7 v8 v9 v11 x60 true else (some (v8 + (1 : Int32))).bind fun x109 => f0_writePages_112 k10 h v0 v1 v2 v3 v4 v6 v7 x109 v9 v11 x60 true))))
set_option maxRecDepth 100000 in
theorem vl0_writePages_58 {κ : Kx} (hc : CX κ RX0 cX0_writePages) (hr : RX κ ({ frames := 5, cells := 0, slots := 0, locals := 135 } : Room)) (hq : QX κ (some .int) 0 0) (hL : 14 = κ.2.2.2.2.1) (k10 : AH → Int32 → Int32 → Int32 → Option (Int32 × AH)) (h : AH) (v0 : Nat) (v1 : Nat) (v2 : Int32) (v3 : Int32) (v4 : Int32) (v6 : Bool) (hk10 : ∀ (h : AH) (v7 : Int32) (v8 : Int32) (v9 : Int32), V κ (wI) 0 0 10 [(0, .ref v0), (1, .ref v1), (2, .int v2), (3, .int v3), (4, .int v4), (6, .int (bI v6)), (7, .int v7), (8, .int v8), (9, .int v9)] [] h (k10 h v7 v8 v9)) (v7 : Int32) (v8 : Int32) (v9 : Int32) (v11 : Int32) (s0 : Nat) (s1 : Nat) (s2 : Int32) (s3 : Bool) : V κ (wI) 0 0 58 [(0, .ref v0), (1, .ref v1), (2, .int v2), (3, .int v3), (4, .int v4), (6, .int (bI v6)), (7, .int v7), (8, .int v8), (9, .int v9), (11, .int v11)] [.int (bI s3), .int s2, .ref s1, .ref s0] h (f0_writePages_58 k10 h v0 v1 v2 v3 v4 v6 v7 v8 v9 v11 s0 s1 s2 s3) := by
  have hn : ∀ i, i < 14 → i < κ.2.2.2.2.1 := fun i q => hL ▸ q
  unfold f0_writePages_58
  refine v_iload (i := 7) hc 6 rfl dX0_writePages_58 ?_
  refine v_cI hc (m_V' (As := [.ref s1, .int s2, .int (bI s3), .int v7]) (b := s0) (rest := []) 4 hc hr (fun l D tys base => ct0_placeFor l D tys base h s0 s1 s2 s3 v7) (fun x hx => ob0_placeFor hx) rfl s0_placeFor w_1000 rfl ⟨Nat.le_of_ble_eq_true rfl, Nat.le_of_ble_eq_true rfl⟩ ⟨Nat.le_of_ble_eq_true rfl, Nat.le_of_ble_eq_true rfl⟩ (Nat.le_of_ble_eq_true rfl) dX0_writePages_60) fun x60 => ?_
  refine v_istore (i := 12) (L' := [(12, .int x60), (0, .ref v0), (1, .ref v1), (2, .int v2), (3, .int v3), (4, .int v4), (6, .int (bI v6)), (7, .int v7), (8, .int v8), (9, .int v9), (11, .int v11)]) hc dX0_writePages_63 (hn 12 (Nat.le_of_ble_eq_true rfl)) rfl ?_
  refine v_iload (i := 12) hc 0 rfl dX0_writePages_65 ?_
  refine v_iconst (x := (-1 : Int32)) hc dX0_writePages_67 zi_m1 ?_
  refine v_icmp_eq hc 101 dX0_writePages_68 rfl ?_ ?_
  · refine v_iconst (x := (0 : Int32)) hc dX0_writePages_101 zi_0 ?_
    refine v_istore (i := 13) (L' := [(13, .int (0 : Int32)), (12, .int x60), (0, .ref v0), (1, .ref v1), (2, .int v2), (3, .int v3), (4, .int v4), (6, .int (bI v6)), (7, .int v7), (8, .int v8), (9, .int v9), (11, .int v11)]) hc dX0_writePages_102 (hn 13 (Nat.le_of_ble_eq_true rfl)) rfl ?_
    refine v_iload (i := 13) hc 0 rfl dX0_writePages_104 ?_
    refine v_if_eq hc 112 dX0_writePages_106 rfl ?_ ?_
    · refine v_sub (L' := [(0, .ref v0), (1, .ref v1), (2, .int v2), (3, .int v3), (4, .int v4), (6, .int (bI v6)), (7, .int v7), (8, .int v8), (9, .int v9), (11, .int v11), (12, .int x60), (13, .int (bI false))]) [2, 3, 4, 5, 6, 7, 8, 9, 10, 11, 1, 0] rfl ?_
      exact vl0_writePages_112 hc hr hq hL k10 h v0 v1 v2 v3 v4 v6 hk10 v7 v8 v9 v11 x60 false
    · refine v_iincN (i := 8) (y := (1 : Int32)) (L' := fun z => [(8, .int z), (13, .int (0 : Int32)), (12, .int x60), (0, .ref v0), (1, .ref v1), (2, .int v2), (3, .int v3), (4, .int v4), (6, .int (bI v6)), (7, .int v7), (9, .int v9), (11, .int v11)]) hc 9 rfl dX0_writePages_109 zi_1 (hn 8 (Nat.le_of_ble_eq_true rfl)) (fun _ => rfl) fun x109 => ?_
      refine v_sub (L' := [(0, .ref v0), (1, .ref v1), (2, .int v2), (3, .int v3), (4, .int v4), (6, .int (bI v6)), (7, .int v7), (8, .int x109), (9, .int v9), (11, .int v11), (12, .int x60), (13, .int (bI false))]) [3, 4, 5, 6, 7, 8, 9, 0, 10, 11, 2, 1] rfl ?_
      exact vl0_writePages_112 hc hr hq hL k10 h v0 v1 v2 v3 v4 v6 hk10 v7 x109 v9 v11 x60 false
  · refine v_iload (i := 11) hc 10 rfl dX0_writePages_71 ?_
    refine v_sipush (x := (9999 : Int32)) hc dX0_writePages_73 zs_9999 ?_
    refine v_icmp_gt hc 101 dX0_writePages_76 rfl ?_ ?_
    · refine v_iconst (x := (0 : Int32)) hc dX0_writePages_101 zi_0 ?_
      refine v_istore (i := 13) (L' := [(13, .int (0 : Int32)), (12, .int x60), (0, .ref v0), (1, .ref v1), (2, .int v2), (3, .int v3), (4, .int v4), (6, .int (bI v6)), (7, .int v7), (8, .int v8), (9, .int v9), (11, .int v11)]) hc dX0_writePages_102 (hn 13 (Nat.le_of_ble_eq_true rfl)) rfl ?_
      refine v_iload (i := 13) hc 0 rfl dX0_writePages_104 ?_
      refine v_if_eq hc 112 dX0_writePages_106 rfl ?_ ?_
      · refine v_sub (L' := [(0, .ref v0), (1, .ref v1), (2, .int v2), (3, .int v3), (4, .int v4), (6, .int (bI v6)), (7, .int v7), (8, .int v8), (9, .int v9), (11, .int v11), (12, .int x60), (13, .int (bI false))]) [2, 3, 4, 5, 6, 7, 8, 9, 10, 11, 1, 0] rfl ?_
        exact vl0_writePages_112 hc hr hq hL k10 h v0 v1 v2 v3 v4 v6 hk10 v7 v8 v9 v11 x60 false
      · refine v_iincN (i := 8) (y := (1 : Int32)) (L' := fun z => [(8, .int z), (13, .int (0 : Int32)), (12, .int x60), (0, .ref v0), (1, .ref v1), (2, .int v2), (3, .int v3), (4, .int v4), (6, .int (bI v6)), (7, .int v7), (9, .int v9), (11, .int v11)]) hc 9 rfl dX0_writePages_109 zi_1 (hn 8 (Nat.le_of_ble_eq_true rfl)) (fun _ => rfl) fun x109 => ?_
        refine v_sub (L' := [(0, .ref v0), (1, .ref v1), (2, .int v2), (3, .int v3), (4, .int v4), (6, .int (bI v6)), (7, .int v7), (8, .int x109), (9, .int v9), (11, .int v11), (12, .int x60), (13, .int (bI false))]) [3, 4, 5, 6, 7, 8, 9, 0, 10, 11, 2, 1] rfl ?_
        exact vl0_writePages_112 hc hr hq hL k10 h v0 v1 v2 v3 v4 v6 hk10 v7 x109 v9 v11 x60 false
    · refine v_aload_n (i := 1) hc 2 rfl dX0_writePages_79 rfl ?_
      refine v_getVN hc kX7 5 (by decide) w_193 rfl dX0_writePages_80 (gR rfl fun x80 => ?_)
      refine v_iload_n (i := 2) hc 3 rfl dX0_writePages_83 rfl ?_
      refine v_sipush (x := (10000 : Int32)) hc dX0_writePages_84 zs_10000 ?_
      refine v_imul hc dX0_writePages_87 ?_
      refine v_iload (i := 11) hc 10 rfl dX0_writePages_88 ?_
      refine v_iadd hc dX0_writePages_90 ?_
      refine v_cB hc (m_V' (As := [.int ((v2 * (10000 : Int32)) + v11)]) (b := x80) (rest := []) 1 hc hr (fun l D tys base => ct2_hasKey l D tys base h x80 ((v2 * (10000 : Int32)) + v11)) (fun x hx => ob2_hasKey hx) rfl s2_hasKey w_1004 rfl ⟨Nat.le_of_ble_eq_true rfl, Nat.le_of_ble_eq_true rfl⟩ ⟨Nat.le_of_ble_eq_true rfl, Nat.le_of_ble_eq_true rfl⟩ (Nat.le_of_ble_eq_true rfl) dX0_writePages_91) fun x91 => ?_
      refine v_ifb_ne hc 101 dX0_writePages_94 rfl ?_ ?_
      · refine v_iconst (x := (0 : Int32)) hc dX0_writePages_101 zi_0 ?_
        refine v_istore (i := 13) (L' := [(13, .int (0 : Int32)), (12, .int x60), (0, .ref v0), (1, .ref v1), (2, .int v2), (3, .int v3), (4, .int v4), (6, .int (bI v6)), (7, .int v7), (8, .int v8), (9, .int v9), (11, .int v11)]) hc dX0_writePages_102 (hn 13 (Nat.le_of_ble_eq_true rfl)) rfl ?_
        refine v_iload (i := 13) hc 0 rfl dX0_writePages_104 ?_
        refine v_if_eq hc 112 dX0_writePages_106 rfl ?_ ?_
        · refine v_sub (L' := [(0, .ref v0), (1, .ref v1), (2, .int v2), (3, .int v3), (4, .int v4), (6, .int (bI v6)), (7, .int v7), (8, .int v8), (9, .int v9), (11, .int v11), (12, .int x60), (13, .int (bI false))]) [2, 3, 4, 5, 6, 7, 8, 9, 10, 11, 1, 0] rfl ?_
          exact vl0_writePages_112 hc hr hq hL k10 h v0 v1 v2 v3 v4 v6 hk10 v7 v8 v9 v11 x60 false
        · refine v_iincN (i := 8) (y := (1 : Int32)) (L' := fun z => [(8, .int z), (13, .int (0 : Int32)), (12, .int x60), (0, .ref v0), (1, .ref v1), (2, .int v2), (3, .int v3), (4, .int v4), (6, .int (bI v6)), (7, .int v7), (9, .int v9), (11, .int v11)]) hc 9 rfl dX0_writePages_109 zi_1 (hn 8 (Nat.le_of_ble_eq_true rfl)) (fun _ => rfl) fun x109 => ?_
          refine v_sub (L' := [(0, .ref v0), (1, .ref v1), (2, .int v2), (3, .int v3), (4, .int v4), (6, .int (bI v6)), (7, .int v7), (8, .int x109), (9, .int v9), (11, .int v11), (12, .int x60), (13, .int (bI false))]) [3, 4, 5, 6, 7, 8, 9, 0, 10, 11, 2, 1] rfl ?_
          exact vl0_writePages_112 hc hr hq hL k10 h v0 v1 v2 v3 v4 v6 hk10 v7 x109 v9 v11 x60 false
      · refine v_iconst (x := (1 : Int32)) hc dX0_writePages_97 zi_1 ?_
        refine v_goto hc 102 dX0_writePages_98 rfl ?_
        refine v_istore (i := 13) (L' := [(13, .int (1 : Int32)), (12, .int x60), (0, .ref v0), (1, .ref v1), (2, .int v2), (3, .int v3), (4, .int v4), (6, .int (bI v6)), (7, .int v7), (8, .int v8), (9, .int v9), (11, .int v11)]) hc dX0_writePages_102 (hn 13 (Nat.le_of_ble_eq_true rfl)) rfl ?_
        refine v_iload (i := 13) hc 0 rfl dX0_writePages_104 ?_
        refine v_if_eq hc 112 dX0_writePages_106 rfl ?_ ?_
        · refine v_sub (L' := [(0, .ref v0), (1, .ref v1), (2, .int v2), (3, .int v3), (4, .int v4), (6, .int (bI v6)), (7, .int v7), (8, .int v8), (9, .int v9), (11, .int v11), (12, .int x60), (13, .int (bI true))]) [2, 3, 4, 5, 6, 7, 8, 9, 10, 11, 1, 0] rfl ?_
          exact vl0_writePages_112 hc hr hq hL k10 h v0 v1 v2 v3 v4 v6 hk10 v7 v8 v9 v11 x60 true
        · refine v_iincN (i := 8) (y := (1 : Int32)) (L' := fun z => [(8, .int z), (13, .int (1 : Int32)), (12, .int x60), (0, .ref v0), (1, .ref v1), (2, .int v2), (3, .int v3), (4, .int v4), (6, .int (bI v6)), (7, .int v7), (9, .int v9), (11, .int v11)]) hc 9 rfl dX0_writePages_109 zi_1 (hn 8 (Nat.le_of_ble_eq_true rfl)) (fun _ => rfl) fun x109 => ?_
          refine v_sub (L' := [(0, .ref v0), (1, .ref v1), (2, .int v2), (3, .int v3), (4, .int v4), (6, .int (bI v6)), (7, .int v7), (8, .int x109), (9, .int v9), (11, .int v11), (12, .int x60), (13, .int (bI true))]) [3, 4, 5, 6, 7, 8, 9, 0, 10, 11, 2, 1] rfl ?_
          exact vl0_writePages_112 hc hr hq hL k10 h v0 v1 v2 v3 v4 v6 hk10 v7 x109 v9 v11 x60 true
def f0_writePages_10 (v0 : Nat) (v1 : Nat) (v2 : Int32) (v3 : Int32) (v4 : Int32) (v6 : Bool) : Nat → AH → Int32 → Int32 → Int32 → Option (Int32 × AH)
  | 0, _, _, _, _ => none
  | n + 1, h, v7, v8, v9 => (if v4 ≤ v9 then some (v8, h) else (f8_drawn h v7).bind fun x19 => (f8_drawn h x19).bind fun x26 => (some (v3 + v9)).bind fun x35 => (f8_perMille h x19).bind fun x43 => (fI 0 1 h v0).bind fun x47 => (if x47 ≤ x43 then f0_writePages_58 (fun h v7 v8 v9 => f0_writePages_10 v0 v1 v2 v3 v4 v6 n h v7 v8 v9) h v0 v1 v2 v3 v4 v6 x26 v8 v9 x35 v0 v1 x35 false else f0_writePages_58 (fun h v7 v8 v9 => f0_writePages_10 v0 v1 v2 v3 v4 v6 n h v7 v8 v9) h v0 v1 v2 v3 v4 v6 x26 v8 v9 x35 v0 v1 x35 true))
set_option maxRecDepth 100000 in
theorem vl0_writePages_10 {κ : Kx} (hc : CX κ RX0 cX0_writePages) (hr : RX κ ({ frames := 5, cells := 0, slots := 0, locals := 135 } : Room)) (hq : QX κ (some .int) 0 0) (hL : 14 = κ.2.2.2.2.1)  (v0 : Nat) (v1 : Nat) (v2 : Int32) (v3 : Int32) (v4 : Int32) (v6 : Bool) : ∀ n (h : AH) (v7 : Int32) (v8 : Int32) (v9 : Int32), V κ (wI) 0 0 10 [(0, .ref v0), (1, .ref v1), (2, .int v2), (3, .int v3), (4, .int v4), (6, .int (bI v6)), (7, .int v7), (8, .int v8), (9, .int v9)] [] h (f0_writePages_10 v0 v1 v2 v3 v4 v6 n h v7 v8 v9) := by
  have hn : ∀ i, i < 14 → i < κ.2.2.2.2.1 := fun i q => hL ▸ q
  intro n
  induction n with
  | zero => intros; exact v_none
  | succ n ih =>
    intro h v7 v8 v9
    rw [f0_writePages_10.eq_2]
    refine v_iload (i := 9) hc 8 rfl dX0_writePages_10 ?_
    refine v_iload (i := 4) hc 4 rfl dX0_writePages_12 ?_
    refine v_icmp_ge hc 146 dX0_writePages_14 rfl ?_ ?_
    · refine v_iload (i := 8) hc 7 rfl dX0_writePages_146 ?_
      exact v_iret hc hq rfl rfl (Nat.le_of_ble_eq_true rfl) (Nat.le_of_ble_eq_true rfl) rfl dX0_writePages_148
    · refine v_iload (i := 7) hc 6 rfl dX0_writePages_17 ?_
      refine v_cI hc (m_SN' (As := [.int v7]) (rest := []) 1 hc hr (fun l D tys base => ct8_drawn l D tys base h v7) s8_drawn w_998 rfl ⟨Nat.le_of_ble_eq_true rfl, Nat.le_of_ble_eq_true rfl⟩ ⟨Nat.le_of_ble_eq_true rfl, Nat.le_of_ble_eq_true rfl⟩ (Nat.le_of_ble_eq_true rfl) dX0_writePages_19) fun x19 => ?_
      refine v_istore (i := 10) (L' := [(10, .int x19), (0, .ref v0), (1, .ref v1), (2, .int v2), (3, .int v3), (4, .int v4), (6, .int (bI v6)), (7, .int v7), (8, .int v8), (9, .int v9)]) hc dX0_writePages_22 (hn 10 (Nat.le_of_ble_eq_true rfl)) rfl ?_
      refine v_iload (i := 10) hc 0 rfl dX0_writePages_24 ?_
      refine v_cI hc (m_SN' (As := [.int x19]) (rest := []) 1 hc hr (fun l D tys base => ct8_drawn l D tys base h x19) s8_drawn w_998 rfl ⟨Nat.le_of_ble_eq_true rfl, Nat.le_of_ble_eq_true rfl⟩ ⟨Nat.le_of_ble_eq_true rfl, Nat.le_of_ble_eq_true rfl⟩ (Nat.le_of_ble_eq_true rfl) dX0_writePages_26) fun x26 => ?_
      refine v_istore (i := 7) (L' := [(7, .int x26), (10, .int x19), (0, .ref v0), (1, .ref v1), (2, .int v2), (3, .int v3), (4, .int v4), (6, .int (bI v6)), (8, .int v8), (9, .int v9)]) hc dX0_writePages_29 (hn 7 (Nat.le_of_ble_eq_true rfl)) rfl ?_
      refine v_iload_n (i := 3) hc 5 rfl dX0_writePages_31 rfl ?_
      refine v_iload (i := 9) hc 9 rfl dX0_writePages_32 ?_
      refine v_iadd hc dX0_writePages_34 ?_
      refine v_nmI fun x35 => ?_
      refine v_istore (i := 11) (L' := [(11, .int x35), (7, .int x26), (10, .int x19), (0, .ref v0), (1, .ref v1), (2, .int v2), (3, .int v3), (4, .int v4), (6, .int (bI v6)), (8, .int v8), (9, .int v9)]) hc dX0_writePages_35 (hn 11 (Nat.le_of_ble_eq_true rfl)) rfl ?_
      refine v_aload_n (i := 0) hc 3 rfl dX0_writePages_37 rfl ?_
      refine v_aload_n (i := 1) hc 4 rfl dX0_writePages_38 rfl ?_
      refine v_iload (i := 11) hc 0 rfl dX0_writePages_39 ?_
      refine v_iload (i := 10) hc 2 rfl dX0_writePages_41 ?_
      refine v_cI hc (m_SN' (As := [.int x19]) (rest := [.int x35, .ref v1, .ref v0]) 1 hc hr (fun l D tys base => ct8_perMille l D tys base h x19) s8_perMille w_999 rfl ⟨Nat.le_of_ble_eq_true rfl, Nat.le_of_ble_eq_true rfl⟩ ⟨Nat.le_of_ble_eq_true rfl, Nat.le_of_ble_eq_true rfl⟩ (Nat.le_of_ble_eq_true rfl) dX0_writePages_43) fun x43 => ?_
      refine v_aload_n (i := 0) hc 3 rfl dX0_writePages_46 rfl ?_
      refine v_getV hc kX0 1 (by decide) w_362 rfl dX0_writePages_47 (gI rfl fun x47 => ?_)
      refine v_icmp_ge hc 57 dX0_writePages_50 rfl ?_ ?_
      · refine v_iconst (x := (0 : Int32)) hc dX0_writePages_57 zi_0 ?_
        refine v_sub (L' := [(0, .ref v0), (1, .ref v1), (2, .int v2), (3, .int v3), (4, .int v4), (6, .int (bI v6)), (7, .int x26), (8, .int v8), (9, .int v9), (11, .int x35)]) [3, 4, 5, 6, 7, 8, 1, 9, 10, 0] rfl ?_
        exact vl0_writePages_58 hc hr hq hL (fun h v7 v8 v9 => f0_writePages_10 v0 v1 v2 v3 v4 v6 n h v7 v8 v9) h v0 v1 v2 v3 v4 v6 ih x26 v8 v9 x35 v0 v1 x35 false
      · refine v_iconst (x := (1 : Int32)) hc dX0_writePages_53 zi_1 ?_
        refine v_goto hc 58 dX0_writePages_54 rfl ?_
        refine v_sub (L' := [(0, .ref v0), (1, .ref v1), (2, .int v2), (3, .int v3), (4, .int v4), (6, .int (bI v6)), (7, .int x26), (8, .int v8), (9, .int v9), (11, .int x35)]) [3, 4, 5, 6, 7, 8, 1, 9, 10, 0] rfl ?_
        exact vl0_writePages_58 hc hr hq hL (fun h v7 v8 v9 => f0_writePages_10 v0 v1 v2 v3 v4 v6 n h v7 v8 v9) h v0 v1 v2 v3 v4 v6 ih x26 v8 v9 x35 v0 v1 x35 true
def f0_writePages (h : AH) (this : Nat) (p0 : Nat) (p1 : Int32) (p2 : Int32) (p3 : Int32) (p4 : Int32) (p5 : Bool) : Option (Int32 × AH) := (hObj 0 h this).bind fun _ => f0_writePages_10 this p0 p1 p2 p3 p5 FU h p4 (0 : Int32) (0 : Int32)
theorem ob0_writePages {h : AH} {this : Nat} {p0 : Nat} {p1 : Int32} {p2 : Int32} {p3 : Int32} {p4 : Int32} {p5 : Bool} {x : Int32 × AH} (e : f0_writePages h this p0 p1 p2 p3 p4 p5 = some x) : ∃ fs, hObj 0 h this = some fs := by
  unfold f0_writePages at e
  obtain ⟨fs, h1, -⟩ := bd e
  exact ⟨fs, h1⟩
set_option maxRecDepth 100000 in
theorem ct0_writePages (l : Launch) (D : va_G) (tys : Tys) (base : Nat) (h : AH) (this : Nat) (p0 : Nat) (p1 : Int32) (p2 : Int32) (p3 : Int32) (p4 : Int32) (p5 : Bool) : Ct l D tys base yX0_writePages cX0_writePages 14 (some .int) 5 135 0 0 [.ref this, .ref p0, .int p1, .int p2, .int p3, .int p4, .int (bI p5)] h (wI) (f0_writePages h this p0 p1 p2 p3 p4 p5) := by
  refine Ct.intro (own := RX0) (L := [(0, .ref this), (1, .ref p0), (2, .int p1), (3, .int p2), (4, .int p3), (5, .int p4), (6, .int (bI p5))]) rfl (by decide) rfl (Nat.le_of_ble_eq_true rfl) fun κ hc hr hq hi hL => ?_
  have hn : ∀ i, i < 14 → i < κ.2.2.2.2.1 := fun i q => hL ▸ q
  unfold f0_writePages
  refine v_obj ?_
  refine v_iload (i := 5) hc 5 rfl dX0_writePages_0 ?_
  refine v_istore (i := 7) (L' := [(7, .int p4), (0, .ref this), (1, .ref p0), (2, .int p1), (3, .int p2), (4, .int p3), (5, .int p4), (6, .int (bI p5))]) hc dX0_writePages_2 (hn 7 (Nat.le_of_ble_eq_true rfl)) rfl ?_
  refine v_iconst (x := (0 : Int32)) hc dX0_writePages_4 zi_0 ?_
  refine v_istore (i := 8) (L' := [(8, .int (0 : Int32)), (7, .int p4), (0, .ref this), (1, .ref p0), (2, .int p1), (3, .int p2), (4, .int p3), (5, .int p4), (6, .int (bI p5))]) hc dX0_writePages_5 (hn 8 (Nat.le_of_ble_eq_true rfl)) rfl ?_
  refine v_iconst (x := (0 : Int32)) hc dX0_writePages_7 zi_0 ?_
  refine v_istore (i := 9) (L' := [(9, .int (0 : Int32)), (8, .int (0 : Int32)), (7, .int p4), (0, .ref this), (1, .ref p0), (2, .int p1), (3, .int p2), (4, .int p3), (5, .int p4), (6, .int (bI p5))]) hc dX0_writePages_8 (hn 9 (Nat.le_of_ble_eq_true rfl)) rfl ?_
  refine v_sub (L' := [(0, .ref this), (1, .ref p0), (2, .int p1), (3, .int p2), (4, .int p3), (6, .int (bI p5)), (7, .int p4), (8, .int (0 : Int32)), (9, .int (0 : Int32))]) [3, 4, 5, 6, 7, 9, 2, 1, 0] rfl ?_
  exact vl0_writePages_10 hc hr hq hL this p0 p1 p2 p3 p5 FU h p4 (0 : Int32) (0 : Int32)
theorem s0_writePages : YV yX0_writePages RX0 cX0_writePages 14 (some .int) 6 := ⟨w_997, w_995, w_996, w_117, rfl, by decide +kernel, by decide +kernel, by decide +kernel⟩
def f4_clear (h : AH) (this : Nat) : Option (AH) := (hObj 4 h this).bind fun _ => (fS 4 4 h this (.int (0 : Int32))).bind fun h2 => some h2
theorem ob4_clear {h : AH} {this : Nat} {x : AH} (e : f4_clear h this = some x) : ∃ fs, hObj 4 h this = some fs := by
  unfold f4_clear at e
  obtain ⟨fs, h1, -⟩ := bd e
  exact ⟨fs, h1⟩
set_option maxRecDepth 100000 in
theorem ct4_clear (l : Launch) (D : va_G) (tys : Tys) (base : Nat) (h : AH) (this : Nat) : Ct l D tys base yX4_clear cX4_clear 1 none 0 0 0 0 [.ref this] h (wV) (f4_clear h this) := by
  refine Ct.intro (own := RX4) (L := [(0, .ref this)]) rfl (by decide) rfl (Nat.le_of_ble_eq_true rfl) fun κ hc hr hq hi hL => ?_
  have hn : ∀ i, i < 1 → i < κ.2.2.2.2.1 := fun i q => hL ▸ q
  unfold f4_clear
  refine v_obj ?_
  refine v_aload_n (i := 0) hc 0 rfl dX4_clear_0 rfl ?_
  refine v_iconst (x := (0 : Int32)) hc dX4_clear_1 zi_0 ?_
  refine v_put hc kX4 4 (by decide) w_313 rfl rfl dX4_clear_2 ⟨rfl, rfl⟩ fun h2 => ?_
  exact v_vret hc hq (Nat.le_of_ble_eq_true rfl) (Nat.le_of_ble_eq_true rfl) rfl dX4_clear_5
theorem s4_clear : YV yX4_clear RX4 cX4_clear 1 none 0 := ⟨w_1022, w_1020, w_1021, w_115, rfl, by decide +kernel, by decide +kernel, by decide +kernel⟩
def f4_add (h : AH) (this : Nat) (p0 : Int32) (p1 : Int32) (p2 : Int32) (p3 : Int32) : Option (AH) := (hObj 4 h this).bind fun _ => (fI 4 4 h this).bind fun x1 => (if x1 < 0 then some h else (fI 4 4 h this).bind fun x8 => (if (6 : Int32) ≤ x8 then some h else (fR 4 0 h this).bind fun x17 => (fI 4 4 h this).bind fun x21 => (sI 0 h x17 x21 p0).bind fun h25 => (fR 4 1 h25 this).bind fun x27 => (fI 4 4 h25 this).bind fun x31 => (sI 0 h25 x27 x31 p1).bind fun h35 => (fR 4 2 h35 this).bind fun x37 => (fI 4 4 h35 this).bind fun x41 => (sI 0 h35 x37 x41 p2).bind fun h45 => (fR 4 3 h45 this).bind fun x47 => (fI 4 4 h45 this).bind fun x51 => (sI 0 h45 x47 x51 p3).bind fun h56 => (fI 4 4 h56 this).bind fun x59 => (fS 4 4 h56 this (.int (x59 + (1 : Int32)))).bind fun h64 => some h64))
theorem ob4_add {h : AH} {this : Nat} {p0 : Int32} {p1 : Int32} {p2 : Int32} {p3 : Int32} {x : AH} (e : f4_add h this p0 p1 p2 p3 = some x) : ∃ fs, hObj 4 h this = some fs := by
  unfold f4_add at e
  obtain ⟨fs, h1, -⟩ := bd e
  exact ⟨fs, h1⟩
set_option maxRecDepth 100000 in
theorem ct4_add (l : Launch) (D : va_G) (tys : Tys) (base : Nat) (h : AH) (this : Nat) (p0 : Int32) (p1 : Int32) (p2 : Int32) (p3 : Int32) : Ct l D tys base yX4_add cX4_add 5 none 0 0 0 0 [.ref this, .int p0, .int p1, .int p2, .int p3] h (wV) (f4_add h this p0 p1 p2 p3) := by
  refine Ct.intro (own := RX4) (L := [(0, .ref this), (1, .int p0), (2, .int p1), (3, .int p2), (4, .int p3)]) rfl (by decide) rfl (Nat.le_of_ble_eq_true rfl) fun κ hc hr hq hi hL => ?_
  have hn : ∀ i, i < 5 → i < κ.2.2.2.2.1 := fun i q => hL ▸ q
  unfold f4_add
  refine v_obj ?_
  refine v_aload_n (i := 0) hc 0 rfl dX4_add_0 rfl ?_
  refine v_getV hc kX4 4 (by decide) w_313 rfl dX4_add_1 (gI rfl fun x1 => ?_)
  refine v_if_lt hc 67 dX4_add_4 rfl ?_ ?_
  · exact v_vret hc hq (Nat.le_of_ble_eq_true rfl) (Nat.le_of_ble_eq_true rfl) rfl dX4_add_67
  · refine v_aload_n (i := 0) hc 0 rfl dX4_add_7 rfl ?_
    refine v_getV hc kX4 4 (by decide) w_313 rfl dX4_add_8 (gI rfl fun x8 => ?_)
    refine v_bipush (x := (6 : Int32)) hc dX4_add_11 zb_6 ?_
    refine v_icmp_ge hc 67 dX4_add_13 rfl ?_ ?_
    · exact v_vret hc hq (Nat.le_of_ble_eq_true rfl) (Nat.le_of_ble_eq_true rfl) rfl dX4_add_67
    · refine v_aload_n (i := 0) hc 0 rfl dX4_add_16 rfl ?_
      refine v_getV hc kX4 0 (by decide) w_309 rfl dX4_add_17 (gR rfl fun x17 => ?_)
      refine v_aload_n (i := 0) hc 0 rfl dX4_add_20 rfl ?_
      refine v_getV hc kX4 4 (by decide) w_313 rfl dX4_add_21 (gI rfl fun x21 => ?_)
      refine v_iload_n (i := 1) hc 1 rfl dX4_add_24 rfl ?_
      refine v_iast hc dX4_add_25 fun h25 => ?_
      refine v_aload_n (i := 0) hc 0 rfl dX4_add_26 rfl ?_
      refine v_getV hc kX4 1 (by decide) w_310 rfl dX4_add_27 (gR rfl fun x27 => ?_)
      refine v_aload_n (i := 0) hc 0 rfl dX4_add_30 rfl ?_
      refine v_getV hc kX4 4 (by decide) w_313 rfl dX4_add_31 (gI rfl fun x31 => ?_)
      refine v_iload_n (i := 2) hc 2 rfl dX4_add_34 rfl ?_
      refine v_iast hc dX4_add_35 fun h35 => ?_
      refine v_aload_n (i := 0) hc 0 rfl dX4_add_36 rfl ?_
      refine v_getV hc kX4 2 (by decide) w_311 rfl dX4_add_37 (gR rfl fun x37 => ?_)
      refine v_aload_n (i := 0) hc 0 rfl dX4_add_40 rfl ?_
      refine v_getV hc kX4 4 (by decide) w_313 rfl dX4_add_41 (gI rfl fun x41 => ?_)
      refine v_iload_n (i := 3) hc 3 rfl dX4_add_44 rfl ?_
      refine v_iast hc dX4_add_45 fun h45 => ?_
      refine v_aload_n (i := 0) hc 0 rfl dX4_add_46 rfl ?_
      refine v_getV hc kX4 3 (by decide) w_312 rfl dX4_add_47 (gR rfl fun x47 => ?_)
      refine v_aload_n (i := 0) hc 0 rfl dX4_add_50 rfl ?_
      refine v_getV hc kX4 4 (by decide) w_313 rfl dX4_add_51 (gI rfl fun x51 => ?_)
      refine v_iload (i := 4) hc 4 rfl dX4_add_54 ?_
      refine v_iast hc dX4_add_56 fun h56 => ?_
      refine v_aload_n (i := 0) hc 0 rfl dX4_add_57 rfl ?_
      refine v_dup hc dX4_add_58 rfl ?_
      refine v_getV hc kX4 4 (by decide) w_313 rfl dX4_add_59 (gI rfl fun x59 => ?_)
      refine v_iconst (x := (1 : Int32)) hc dX4_add_62 zi_1 ?_
      refine v_iadd hc dX4_add_63 ?_
      refine v_put hc kX4 4 (by decide) w_313 rfl rfl dX4_add_64 ⟨rfl, rfl⟩ fun h64 => ?_
      exact v_vret hc hq (Nat.le_of_ble_eq_true rfl) (Nat.le_of_ble_eq_true rfl) rfl dX4_add_67
theorem s4_add : YV yX4_add RX4 cX4_add 5 none 4 := ⟨w_1026, w_1024, w_1025, w_115, rfl, by decide +kernel, by decide +kernel, by decide +kernel⟩
def f4_waitOf (h : AH) (this : Nat) (p0 : Int32) : Option (Int64) := (hObj 4 h this).bind fun _ => (if p0 < 0 then some (0 : Int64) else (fR 4 5 h this).bind fun x6 => (aN h x6).bind fun x9 => (if x9 ≤ p0 then some (0 : Int64) else (fR 4 5 h this).bind fun x14 => (aL' h x14 p0).bind fun x18 => some x18))
theorem ob4_waitOf {h : AH} {this : Nat} {p0 : Int32} {x : Int64} (e : f4_waitOf h this p0 = some x) : ∃ fs, hObj 4 h this = some fs := by
  unfold f4_waitOf at e
  obtain ⟨fs, h1, -⟩ := bd e
  exact ⟨fs, h1⟩
set_option maxRecDepth 100000 in
theorem ct4_waitOf (l : Launch) (D : va_G) (tys : Tys) (base : Nat) (h : AH) (this : Nat) (p0 : Int32) : Ct l D tys base yX4_waitOf cX4_waitOf 2 (some .long) 0 0 0 0 [.ref this, .int p0] h (rL h) (f4_waitOf h this p0) := by
  refine Ct.intro (own := RX4) (L := [(0, .ref this), (1, .int p0)]) rfl (by decide) rfl (Nat.le_of_ble_eq_true rfl) fun κ hc hr hq hi hL => ?_
  have hn : ∀ i, i < 2 → i < κ.2.2.2.2.1 := fun i q => hL ▸ q
  unfold f4_waitOf
  refine v_obj ?_
  refine v_iload_n (i := 1) hc 1 rfl dX4_waitOf_0 rfl ?_
  refine v_if_lt hc 22 dX4_waitOf_1 rfl ?_ ?_
  · refine v_lconst (x := (0 : Int64)) hc dX4_waitOf_22 (by decide) ?_
    exact v_lret hc hq (Nat.le_of_ble_eq_true rfl) (Nat.le_of_ble_eq_true rfl) rfl dX4_waitOf_23
  · refine v_iload_n (i := 1) hc 1 rfl dX4_waitOf_4 rfl ?_
    refine v_aload_n (i := 0) hc 0 rfl dX4_waitOf_5 rfl ?_
    refine v_getV hc kX4 5 (by decide) w_314 rfl dX4_waitOf_6 (gR rfl fun x6 => ?_)
    refine v_alen hc dX4_waitOf_9 fun x9 => ?_
    refine v_icmp_ge hc 22 dX4_waitOf_10 rfl ?_ ?_
    · refine v_lconst (x := (0 : Int64)) hc dX4_waitOf_22 (by decide) ?_
      exact v_lret hc hq (Nat.le_of_ble_eq_true rfl) (Nat.le_of_ble_eq_true rfl) rfl dX4_waitOf_23
    · refine v_aload_n (i := 0) hc 0 rfl dX4_waitOf_13 rfl ?_
      refine v_getV hc kX4 5 (by decide) w_314 rfl dX4_waitOf_14 (gR rfl fun x14 => ?_)
      refine v_iload_n (i := 1) hc 1 rfl dX4_waitOf_17 rfl ?_
      refine v_lald hc dX4_waitOf_18 fun x18 => ?_
      refine v_goto hc 23 dX4_waitOf_19 rfl ?_
      exact v_lret hc hq (Nat.le_of_ble_eq_true rfl) (Nat.le_of_ble_eq_true rfl) rfl dX4_waitOf_23
theorem s4_waitOf : YV yX4_waitOf RX4 cX4_waitOf 2 (some .long) 1 := ⟨w_1042, w_1041, w_42, w_115, rfl, by decide +kernel, by decide +kernel, by decide +kernel⟩
def f4_waitWith_35 (h : AH) (v0 : Nat) (v2 : Int32) (v3 : Int32) : Nat → Int64 → Int32 → Option (Int64)
  | 0, _, _ => none
  | n + 1, v4, v6 => (if v6 ≤ 0 then (fR 4 1 h v0).bind fun x57 => (aI 0 h x57 v2).bind fun x61 => (f4_waitOf h v0 v3).bind fun x65 => some (v4 + (x61.toInt64 * x65)) else (some (v4 * (1000 : Int64))).bind fun x46 => (some (v6 + (-1 : Int32))).bind fun x48 => f4_waitWith_35 h v0 v2 v3 n x46 x48)
set_option maxRecDepth 100000 in
theorem vl4_waitWith_35 {κ : Kx} (hc : CX κ RX4 cX4_waitWith) (hr : RX κ ({ frames := 1, cells := 0, slots := 0, locals := 21 } : Room)) (hq : QX κ (some .long) 0 0) (hL : 7 = κ.2.2.2.2.1)  (h : AH) (v0 : Nat) (v2 : Int32) (v3 : Int32) : ∀ n (v4 : Int64) (v6 : Int32), V κ (rL h) 0 0 35 [(0, .ref v0), (2, .int v2), (3, .int v3), (4, .long v4), (6, .int v6)] [] h (f4_waitWith_35 h v0 v2 v3 n v4 v6) := by
  have hn : ∀ i, i < 7 → i < κ.2.2.2.2.1 := fun i q => hL ▸ q
  intro n
  induction n with
  | zero => intros; exact v_none
  | succ n ih =>
    intro v4 v6
    rw [f4_waitWith_35.eq_2]
    refine v_iload (i := 6) hc 4 rfl dX4_waitWith_35 ?_
    refine v_if_le hc 54 dX4_waitWith_37 rfl ?_ ?_
    · refine v_lload (i := 4) hc 3 rfl dX4_waitWith_54 ?_
      refine v_aload_n (i := 0) hc 0 rfl dX4_waitWith_56 rfl ?_
      refine v_getV hc kX4 1 (by decide) w_310 rfl dX4_waitWith_57 (gR rfl fun x57 => ?_)
      refine v_iload_n (i := 2) hc 1 rfl dX4_waitWith_60 rfl ?_
      refine v_iald hc dX4_waitWith_61 fun x61 => ?_
      refine v_i2l hc dX4_waitWith_62 ?_
      refine v_aload_n (i := 0) hc 0 rfl dX4_waitWith_63 rfl ?_
      refine v_iload_n (i := 3) hc 2 rfl dX4_waitWith_64 rfl ?_
      refine v_cL hc (m_V' (As := [.int v3]) (b := v0) (rest := [.long x61.toInt64, .long v4]) 1 hc hr (fun l D tys base => ct4_waitOf l D tys base h v0 v3) (fun x hx => ob4_waitOf hx) rfl s4_waitOf w_1039 rfl ⟨Nat.le_of_ble_eq_true rfl, Nat.le_of_ble_eq_true rfl⟩ ⟨Nat.le_of_ble_eq_true rfl, Nat.le_of_ble_eq_true rfl⟩ (Nat.le_of_ble_eq_true rfl) dX4_waitWith_65) fun x65 => ?_
      refine v_lmul hc dX4_waitWith_68 ?_
      refine v_ladd hc dX4_waitWith_69 ?_
      exact v_lret hc hq (Nat.le_of_ble_eq_true rfl) (Nat.le_of_ble_eq_true rfl) rfl dX4_waitWith_70
    · refine v_lload (i := 4) hc 3 rfl dX4_waitWith_40 ?_
      refine v_ldc2 (x := (1000 : Int64)) hc w_1038 dX4_waitWith_42 ?_
      refine v_lmul hc dX4_waitWith_45 ?_
      refine v_nmL fun x46 => ?_
      refine v_lstore (i := 4) (L' := [(4, .long x46), (0, .ref v0), (2, .int v2), (3, .int v3), (6, .int v6)]) hc dX4_waitWith_46 (hn 5 (Nat.le_of_ble_eq_true rfl)) rfl ?_
      refine v_iincN (i := 6) (y := (-1 : Int32)) (L' := fun z => [(6, .int z), (4, .long x46), (0, .ref v0), (2, .int v2), (3, .int v3)]) hc 4 rfl dX4_waitWith_48 zi_m1 (hn 6 (Nat.le_of_ble_eq_true rfl)) (fun _ => rfl) fun x48 => ?_
      refine v_goto hc 35 dX4_waitWith_51 rfl ?_
      refine v_sub (L' := [(0, .ref v0), (2, .int v2), (3, .int v3), (4, .long x46), (6, .int x48)]) [2, 3, 4, 1, 0] rfl ?_
      exact ih x46 x48
def f4_waitWith (h : AH) (this : Nat) (p0 : Int32) (p1 : Int32) : Option (Int64) := (hObj 4 h this).bind fun _ => (if p1 < 0 then some (0 : Int64) else (if p1 < (6 : Int32) then (some (p0 &&& (((1 : Int32) <<< (p1 &&& 31)) ^^^ (-1 : Int32)))).bind fun x19 => (fR 4 2 h this).bind fun x21 => (aI 0 h x21 p1).bind fun x25 => (fJ6_bitCount_0f7a4 h x19).bind fun x30 => f4_waitWith_35 h this p1 x19 FU x25.toInt64 x30 else some (0 : Int64)))
theorem ob4_waitWith {h : AH} {this : Nat} {p0 : Int32} {p1 : Int32} {x : Int64} (e : f4_waitWith h this p0 p1 = some x) : ∃ fs, hObj 4 h this = some fs := by
  unfold f4_waitWith at e
  obtain ⟨fs, h1, -⟩ := bd e
  exact ⟨fs, h1⟩
set_option maxRecDepth 100000 in
theorem ct4_waitWith (l : Launch) (D : va_G) (tys : Tys) (base : Nat) (h : AH) (this : Nat) (p0 : Int32) (p1 : Int32) : Ct l D tys base yX4_waitWith cX4_waitWith 7 (some .long) 1 21 0 0 [.ref this, .int p0, .int p1] h (rL h) (f4_waitWith h this p0 p1) := by
  refine Ct.intro (own := RX4) (L := [(0, .ref this), (1, .int p0), (2, .int p1)]) rfl (by decide) rfl (Nat.le_of_ble_eq_true rfl) fun κ hc hr hq hi hL => ?_
  have hn : ∀ i, i < 7 → i < κ.2.2.2.2.1 := fun i q => hL ▸ q
  unfold f4_waitWith
  refine v_obj ?_
  refine v_iload_n (i := 2) hc 2 rfl dX4_waitWith_0 rfl ?_
  refine v_if_lt hc 10 dX4_waitWith_1 rfl ?_ ?_
  · refine v_lconst (x := (0 : Int64)) hc dX4_waitWith_10 (by decide) ?_
    exact v_lret hc hq (Nat.le_of_ble_eq_true rfl) (Nat.le_of_ble_eq_true rfl) rfl dX4_waitWith_11
  · refine v_iload_n (i := 2) hc 2 rfl dX4_waitWith_4 rfl ?_
    refine v_bipush (x := (6 : Int32)) hc dX4_waitWith_5 zb_6 ?_
    refine v_icmp_lt hc 12 dX4_waitWith_7 rfl ?_ ?_
    · refine v_iload_n (i := 1) hc 1 rfl dX4_waitWith_12 rfl ?_
      refine v_iconst (x := (1 : Int32)) hc dX4_waitWith_13 zi_1 ?_
      refine v_iload_n (i := 2) hc 2 rfl dX4_waitWith_14 rfl ?_
      refine v_ishl hc dX4_waitWith_15 ?_
      refine v_iconst (x := (-1 : Int32)) hc dX4_waitWith_16 zi_m1 ?_
      refine v_ixor hc dX4_waitWith_17 ?_
      refine v_iand hc dX4_waitWith_18 ?_
      refine v_nmI fun x19 => ?_
      refine v_istore_n (i := 3) (L' := [(3, .int x19), (0, .ref this), (1, .int p0), (2, .int p1)]) hc dX4_waitWith_19 rfl (hn 3 (Nat.le_of_ble_eq_true rfl)) rfl ?_
      refine v_aload_n (i := 0) hc 1 rfl dX4_waitWith_20 rfl ?_
      refine v_getV hc kX4 2 (by decide) w_311 rfl dX4_waitWith_21 (gR rfl fun x21 => ?_)
      refine v_iload_n (i := 2) hc 3 rfl dX4_waitWith_24 rfl ?_
      refine v_iald hc dX4_waitWith_25 fun x25 => ?_
      refine v_i2l hc dX4_waitWith_26 ?_
      refine v_lstore (i := 4) (L' := [(4, .long x25.toInt64), (3, .int x19), (0, .ref this), (1, .int p0), (2, .int p1)]) hc dX4_waitWith_27 (hn 5 (Nat.le_of_ble_eq_true rfl)) rfl ?_
      refine v_iload_n (i := 3) hc 1 rfl dX4_waitWith_29 rfl ?_
      refine v_cI hc (m_S' (As := [.int x19]) (rest := []) 1 hc hr (fun l D tys base => ctJ6_bitCount_0f7a4 l D tys base h x19) sJ6_bitCount_0f7a4 w_1037 rfl ⟨Nat.le_of_ble_eq_true rfl, Nat.le_of_ble_eq_true rfl⟩ ⟨Nat.le_of_ble_eq_true rfl, Nat.le_of_ble_eq_true rfl⟩ (Nat.le_of_ble_eq_true rfl) dX4_waitWith_30) fun x30 => ?_
      refine v_istore (i := 6) (L' := [(6, .int x30), (4, .long x25.toInt64), (3, .int x19), (0, .ref this), (1, .int p0), (2, .int p1)]) hc dX4_waitWith_33 (hn 6 (Nat.le_of_ble_eq_true rfl)) rfl ?_
      refine v_sub (L' := [(0, .ref this), (2, .int p1), (3, .int x19), (4, .long x25.toInt64), (6, .int x30)]) [3, 5, 2, 1, 0] rfl ?_
      exact vl4_waitWith_35 hc hr hq hL h this p1 x19 FU x25.toInt64 x30
    · refine v_lconst (x := (0 : Int64)) hc dX4_waitWith_10 (by decide) ?_
      exact v_lret hc hq (Nat.le_of_ble_eq_true rfl) (Nat.le_of_ble_eq_true rfl) rfl dX4_waitWith_11
theorem s4_waitWith : YV yX4_waitWith RX4 cX4_waitWith 7 (some .long) 2 := ⟨w_1036, w_1035, w_41, w_115, rfl, by decide +kernel, by decide +kernel, by decide +kernel⟩
def f4_findLeastWaits_60 (k2 : AH → Int32 → Option (AH)) (k32 : AH → Int32 → Option (AH)) (h : AH) (v0 : Nat) (v1 : Int32) (v2 : Int32) (s0 : Int64) : Option (AH) := (if s0 < (0 : Int64) then (some (v2 + (1 : Int32))).bind fun x96 => k32 h x96 else (fR 4 5 h v0).bind fun x68 => (aL' h x68 v1).bind fun x72 => (if x72 < (0 : Int64) then (fR 4 5 h v0).bind fun x90 => (sL h x90 v1 s0).bind fun h95 => (some (v2 + (1 : Int32))).bind fun x96 => k32 h95 x96 else (fR 4 5 h v0).bind fun x80 => (aL' h x80 v1).bind fun x84 => (if x84 ≤ s0 then (some (v2 + (1 : Int32))).bind fun x96 => k32 h x96 else (fR 4 5 h v0).bind fun x90 => (sL h x90 v1 s0).bind fun h95 => (some (v2 + (1 : Int32))).bind fun x96 => k32 h95 x96)))
set_option maxRecDepth 100000 in
theorem vl4_findLeastWaits_60 {κ : Kx} (hc : CX κ RX4 cX4_findLeastWaits) (hr : RX κ ({ frames := 2, cells := 0, slots := 0, locals := 47 } : Room)) (hq : QX κ none 0 0) (hL : 5 = κ.2.2.2.2.1) (k2 : AH → Int32 → Option (AH)) (k32 : AH → Int32 → Option (AH)) (h : AH) (v0 : Nat) (v1 : Int32) (hk2 : ∀ (h : AH) (v1 : Int32), V κ (wV) 0 0 2 [(0, .ref v0), (1, .int v1)] [] h (k2 h v1)) (hk32 : ∀ (h : AH) (v2 : Int32), V κ (wV) 0 0 32 [(0, .ref v0), (1, .int v1), (2, .int v2)] [] h (k32 h v2)) (v2 : Int32) (s0 : Int64) : V κ (wV) 0 0 60 [(0, .ref v0), (1, .int v1), (2, .int v2)] [.long s0] h (f4_findLeastWaits_60 k2 k32 h v0 v1 v2 s0) := by
  have hn : ∀ i, i < 5 → i < κ.2.2.2.2.1 := fun i q => hL ▸ q
  unfold f4_findLeastWaits_60
  refine v_lstore_n (i := 3) (L' := [(3, .long s0), (0, .ref v0), (1, .int v1), (2, .int v2)]) hc dX4_findLeastWaits_60 rfl (hn 4 (Nat.le_of_ble_eq_true rfl)) rfl ?_
  refine v_lload_n (i := 3) hc 0 rfl dX4_findLeastWaits_61 rfl ?_
  refine v_lconst (x := (0 : Int64)) hc dX4_findLeastWaits_62 (by decide) ?_
  refine v_lcmp_lt hc 96 dX4_findLeastWaits_63 dX4_findLeastWaits_64 rfl ?_ ?_
  · refine v_iincN (i := 2) (y := (1 : Int32)) (L' := fun z => [(2, .int z), (3, .long s0), (0, .ref v0), (1, .int v1)]) hc 3 rfl dX4_findLeastWaits_96 zi_1 (hn 2 (Nat.le_of_ble_eq_true rfl)) (fun _ => rfl) fun x96 => ?_
    refine v_goto hc 32 dX4_findLeastWaits_99 rfl ?_
    refine v_sub (L' := [(0, .ref v0), (1, .int v1), (2, .int x96)]) [2, 3, 0] rfl ?_
    exact hk32 h x96
  · refine v_aload_n (i := 0) hc 1 rfl dX4_findLeastWaits_67 rfl ?_
    refine v_getV hc kX4 5 (by decide) w_314 rfl dX4_findLeastWaits_68 (gR rfl fun x68 => ?_)
    refine v_iload_n (i := 1) hc 2 rfl dX4_findLeastWaits_71 rfl ?_
    refine v_lald hc dX4_findLeastWaits_72 fun x72 => ?_
    refine v_lconst (x := (0 : Int64)) hc dX4_findLeastWaits_73 (by decide) ?_
    refine v_lcmp_lt hc 89 dX4_findLeastWaits_74 dX4_findLeastWaits_75 rfl ?_ ?_
    · refine v_aload_n (i := 0) hc 1 rfl dX4_findLeastWaits_89 rfl ?_
      refine v_getV hc kX4 5 (by decide) w_314 rfl dX4_findLeastWaits_90 (gR rfl fun x90 => ?_)
      refine v_iload_n (i := 1) hc 2 rfl dX4_findLeastWaits_93 rfl ?_
      refine v_lload_n (i := 3) hc 0 rfl dX4_findLeastWaits_94 rfl ?_
      refine v_last hc dX4_findLeastWaits_95 fun h95 => ?_
      refine v_iincN (i := 2) (y := (1 : Int32)) (L' := fun z => [(2, .int z), (3, .long s0), (0, .ref v0), (1, .int v1)]) hc 3 rfl dX4_findLeastWaits_96 zi_1 (hn 2 (Nat.le_of_ble_eq_true rfl)) (fun _ => rfl) fun x96 => ?_
      refine v_goto hc 32 dX4_findLeastWaits_99 rfl ?_
      refine v_sub (L' := [(0, .ref v0), (1, .int v1), (2, .int x96)]) [2, 3, 0] rfl ?_
      exact hk32 h95 x96
    · refine v_lload_n (i := 3) hc 0 rfl dX4_findLeastWaits_78 rfl ?_
      refine v_aload_n (i := 0) hc 1 rfl dX4_findLeastWaits_79 rfl ?_
      refine v_getV hc kX4 5 (by decide) w_314 rfl dX4_findLeastWaits_80 (gR rfl fun x80 => ?_)
      refine v_iload_n (i := 1) hc 2 rfl dX4_findLeastWaits_83 rfl ?_
      refine v_lald hc dX4_findLeastWaits_84 fun x84 => ?_
      refine v_lcmp_ge hc 96 dX4_findLeastWaits_85 dX4_findLeastWaits_86 rfl ?_ ?_
      · refine v_iincN (i := 2) (y := (1 : Int32)) (L' := fun z => [(2, .int z), (3, .long s0), (0, .ref v0), (1, .int v1)]) hc 3 rfl dX4_findLeastWaits_96 zi_1 (hn 2 (Nat.le_of_ble_eq_true rfl)) (fun _ => rfl) fun x96 => ?_
        refine v_goto hc 32 dX4_findLeastWaits_99 rfl ?_
        refine v_sub (L' := [(0, .ref v0), (1, .int v1), (2, .int x96)]) [2, 3, 0] rfl ?_
        exact hk32 h x96
      · refine v_aload_n (i := 0) hc 1 rfl dX4_findLeastWaits_89 rfl ?_
        refine v_getV hc kX4 5 (by decide) w_314 rfl dX4_findLeastWaits_90 (gR rfl fun x90 => ?_)
        refine v_iload_n (i := 1) hc 2 rfl dX4_findLeastWaits_93 rfl ?_
        refine v_lload_n (i := 3) hc 0 rfl dX4_findLeastWaits_94 rfl ?_
        refine v_last hc dX4_findLeastWaits_95 fun h95 => ?_
        refine v_iincN (i := 2) (y := (1 : Int32)) (L' := fun z => [(2, .int z), (3, .long s0), (0, .ref v0), (1, .int v1)]) hc 3 rfl dX4_findLeastWaits_96 zi_1 (hn 2 (Nat.le_of_ble_eq_true rfl)) (fun _ => rfl) fun x96 => ?_
        refine v_goto hc 32 dX4_findLeastWaits_99 rfl ?_
        refine v_sub (L' := [(0, .ref v0), (1, .int v1), (2, .int x96)]) [2, 3, 0] rfl ?_
        exact hk32 h95 x96
def f4_findLeastWaits_32 (k2 : AH → Int32 → Option (AH)) (v0 : Nat) (v1 : Int32) : Nat → AH → Int32 → Option (AH)
  | 0, _, _ => none
  | n + 1, h, v2 => (fI 4 4 h v0).bind fun x34 => (if x34 ≤ v2 then (some (v1 + (1 : Int32))).bind fun x102 => k2 h x102 else (f8_hasBit h v1 v2).bind fun x42 => (if x42 = true then (f4_waitWith h v0 v1 v2).bind fun x51 => f4_findLeastWaits_60 k2 (fun h v2 => f4_findLeastWaits_32 k2 v0 v1 n h v2) h v0 v1 v2 x51 else f4_findLeastWaits_60 k2 (fun h v2 => f4_findLeastWaits_32 k2 v0 v1 n h v2) h v0 v1 v2 (-1 : Int64)))
set_option maxRecDepth 100000 in
theorem vl4_findLeastWaits_32 {κ : Kx} (hc : CX κ RX4 cX4_findLeastWaits) (hr : RX κ ({ frames := 2, cells := 0, slots := 0, locals := 47 } : Room)) (hq : QX κ none 0 0) (hL : 5 = κ.2.2.2.2.1)  (k2 : AH → Int32 → Option (AH)) (v0 : Nat) (v1 : Int32) (hk2 : ∀ (h : AH) (v1 : Int32), V κ (wV) 0 0 2 [(0, .ref v0), (1, .int v1)] [] h (k2 h v1)) : ∀ n (h : AH) (v2 : Int32), V κ (wV) 0 0 32 [(0, .ref v0), (1, .int v1), (2, .int v2)] [] h (f4_findLeastWaits_32 k2 v0 v1 n h v2) := by
  have hn : ∀ i, i < 5 → i < κ.2.2.2.2.1 := fun i q => hL ▸ q
  intro n
  induction n with
  | zero => intros; exact v_none
  | succ n ih =>
    intro h v2
    rw [f4_findLeastWaits_32.eq_2]
    refine v_iload_n (i := 2) hc 2 rfl dX4_findLeastWaits_32 rfl ?_
    refine v_aload_n (i := 0) hc 0 rfl dX4_findLeastWaits_33 rfl ?_
    refine v_getV hc kX4 4 (by decide) w_313 rfl dX4_findLeastWaits_34 (gI rfl fun x34 => ?_)
    refine v_icmp_ge hc 102 dX4_findLeastWaits_37 rfl ?_ ?_
    · refine v_iincN (i := 1) (y := (1 : Int32)) (L' := fun z => [(1, .int z), (0, .ref v0), (2, .int v2)]) hc 1 rfl dX4_findLeastWaits_102 zi_1 (hn 1 (Nat.le_of_ble_eq_true rfl)) (fun _ => rfl) fun x102 => ?_
      refine v_goto hc 2 dX4_findLeastWaits_105 rfl ?_
      refine v_sub (L' := [(0, .ref v0), (1, .int x102)]) [1, 0] rfl ?_
      exact hk2 h x102
    · refine v_iload_n (i := 1) hc 1 rfl dX4_findLeastWaits_40 rfl ?_
      refine v_iload_n (i := 2) hc 2 rfl dX4_findLeastWaits_41 rfl ?_
      refine v_cB hc (m_SN' (As := [.int v1, .int v2]) (rest := []) 2 hc hr (fun l D tys base => ct8_hasBit l D tys base h v1 v2) s8_hasBit w_1032 rfl ⟨Nat.le_of_ble_eq_true rfl, Nat.le_of_ble_eq_true rfl⟩ ⟨Nat.le_of_ble_eq_true rfl, Nat.le_of_ble_eq_true rfl⟩ (Nat.le_of_ble_eq_true rfl) dX4_findLeastWaits_42) fun x42 => ?_
      refine v_ifb_eq hc 57 dX4_findLeastWaits_45 rfl ?_ ?_
      · refine v_ldc2 (x := (-1 : Int64)) hc w_1031 dX4_findLeastWaits_57 ?_
        refine v_sub (L' := [(0, .ref v0), (1, .int v1), (2, .int v2)]) [0, 1, 2] rfl ?_
        exact vl4_findLeastWaits_60 hc hr hq hL k2 (fun h v2 => f4_findLeastWaits_32 k2 v0 v1 n h v2) h v0 v1 hk2 ih v2 (-1 : Int64)
      · refine v_aload_n (i := 0) hc 0 rfl dX4_findLeastWaits_48 rfl ?_
        refine v_iload_n (i := 1) hc 1 rfl dX4_findLeastWaits_49 rfl ?_
        refine v_iload_n (i := 2) hc 2 rfl dX4_findLeastWaits_50 rfl ?_
        refine v_cL hc (m_V' (As := [.int v1, .int v2]) (b := v0) (rest := []) 2 hc hr (fun l D tys base => ct4_waitWith l D tys base h v0 v1 v2) (fun x hx => ob4_waitWith hx) rfl s4_waitWith w_1033 rfl ⟨Nat.le_of_ble_eq_true rfl, Nat.le_of_ble_eq_true rfl⟩ ⟨Nat.le_of_ble_eq_true rfl, Nat.le_of_ble_eq_true rfl⟩ (Nat.le_of_ble_eq_true rfl) dX4_findLeastWaits_51) fun x51 => ?_
        refine v_goto hc 60 dX4_findLeastWaits_54 rfl ?_
        refine v_sub (L' := [(0, .ref v0), (1, .int v1), (2, .int v2)]) [0, 1, 2] rfl ?_
        exact vl4_findLeastWaits_60 hc hr hq hL k2 (fun h v2 => f4_findLeastWaits_32 k2 v0 v1 n h v2) h v0 v1 hk2 ih v2 x51
def f4_findLeastWaits_2 (v0 : Nat) : Nat → AH → Int32 → Option (AH)
  | 0, _, _ => none
  | n + 1, h, v1 => (fI 4 4 h v0).bind fun x5 => (if ((1 : Int32) <<< (x5 &&& 31)) ≤ v1 then some h else (fR 4 5 h v0).bind fun x14 => (aN h x14).bind fun x17 => (if x17 ≤ v1 then some h else (fR 4 5 h v0).bind fun x22 => (sL h x22 v1 (-1 : Int64)).bind fun h29 => f4_findLeastWaits_32 (fun h v1 => f4_findLeastWaits_2 v0 n h v1) v0 v1 FU h29 (0 : Int32)))
set_option maxRecDepth 100000 in
theorem vl4_findLeastWaits_2 {κ : Kx} (hc : CX κ RX4 cX4_findLeastWaits) (hr : RX κ ({ frames := 2, cells := 0, slots := 0, locals := 47 } : Room)) (hq : QX κ none 0 0) (hL : 5 = κ.2.2.2.2.1)  (v0 : Nat) : ∀ n (h : AH) (v1 : Int32), V κ (wV) 0 0 2 [(0, .ref v0), (1, .int v1)] [] h (f4_findLeastWaits_2 v0 n h v1) := by
  have hn : ∀ i, i < 5 → i < κ.2.2.2.2.1 := fun i q => hL ▸ q
  intro n
  induction n with
  | zero => intros; exact v_none
  | succ n ih =>
    intro h v1
    rw [f4_findLeastWaits_2.eq_2]
    refine v_iload_n (i := 1) hc 1 rfl dX4_findLeastWaits_2 rfl ?_
    refine v_iconst (x := (1 : Int32)) hc dX4_findLeastWaits_3 zi_1 ?_
    refine v_aload_n (i := 0) hc 0 rfl dX4_findLeastWaits_4 rfl ?_
    refine v_getV hc kX4 4 (by decide) w_313 rfl dX4_findLeastWaits_5 (gI rfl fun x5 => ?_)
    refine v_ishl hc dX4_findLeastWaits_8 ?_
    refine v_icmp_ge hc 108 dX4_findLeastWaits_9 rfl ?_ ?_
    · exact v_vret hc hq (Nat.le_of_ble_eq_true rfl) (Nat.le_of_ble_eq_true rfl) rfl dX4_findLeastWaits_108
    · refine v_iload_n (i := 1) hc 1 rfl dX4_findLeastWaits_12 rfl ?_
      refine v_aload_n (i := 0) hc 0 rfl dX4_findLeastWaits_13 rfl ?_
      refine v_getV hc kX4 5 (by decide) w_314 rfl dX4_findLeastWaits_14 (gR rfl fun x14 => ?_)
      refine v_alen hc dX4_findLeastWaits_17 fun x17 => ?_
      refine v_icmp_ge hc 108 dX4_findLeastWaits_18 rfl ?_ ?_
      · exact v_vret hc hq (Nat.le_of_ble_eq_true rfl) (Nat.le_of_ble_eq_true rfl) rfl dX4_findLeastWaits_108
      · refine v_aload_n (i := 0) hc 0 rfl dX4_findLeastWaits_21 rfl ?_
        refine v_getV hc kX4 5 (by decide) w_314 rfl dX4_findLeastWaits_22 (gR rfl fun x22 => ?_)
        refine v_iload_n (i := 1) hc 1 rfl dX4_findLeastWaits_25 rfl ?_
        refine v_ldc2 (x := (-1 : Int64)) hc w_1031 dX4_findLeastWaits_26 ?_
        refine v_last hc dX4_findLeastWaits_29 fun h29 => ?_
        refine v_iconst (x := (0 : Int32)) hc dX4_findLeastWaits_30 zi_0 ?_
        refine v_istore_n (i := 2) (L' := [(2, .int (0 : Int32)), (0, .ref v0), (1, .int v1)]) hc dX4_findLeastWaits_31 rfl (hn 2 (Nat.le_of_ble_eq_true rfl)) rfl ?_
        refine v_sub (L' := [(0, .ref v0), (1, .int v1), (2, .int (0 : Int32))]) [1, 2, 0] rfl ?_
        exact vl4_findLeastWaits_32 hc hr hq hL (fun h v1 => f4_findLeastWaits_2 v0 n h v1) v0 v1 ih FU h29 (0 : Int32)
def f4_findLeastWaits (h : AH) (this : Nat) : Option (AH) := (hObj 4 h this).bind fun _ => f4_findLeastWaits_2 this FU h (1 : Int32)
theorem ob4_findLeastWaits {h : AH} {this : Nat} {x : AH} (e : f4_findLeastWaits h this = some x) : ∃ fs, hObj 4 h this = some fs := by
  unfold f4_findLeastWaits at e
  obtain ⟨fs, h1, -⟩ := bd e
  exact ⟨fs, h1⟩
set_option maxRecDepth 100000 in
theorem ct4_findLeastWaits (l : Launch) (D : va_G) (tys : Tys) (base : Nat) (h : AH) (this : Nat) : Ct l D tys base yX4_findLeastWaits cX4_findLeastWaits 5 none 2 47 0 0 [.ref this] h (wV) (f4_findLeastWaits h this) := by
  refine Ct.intro (own := RX4) (L := [(0, .ref this)]) rfl (by decide) rfl (Nat.le_of_ble_eq_true rfl) fun κ hc hr hq hi hL => ?_
  have hn : ∀ i, i < 5 → i < κ.2.2.2.2.1 := fun i q => hL ▸ q
  unfold f4_findLeastWaits
  refine v_obj ?_
  refine v_iconst (x := (1 : Int32)) hc dX4_findLeastWaits_0 zi_1 ?_
  refine v_istore_n (i := 1) (L' := [(1, .int (1 : Int32)), (0, .ref this)]) hc dX4_findLeastWaits_1 rfl (hn 1 (Nat.le_of_ble_eq_true rfl)) rfl ?_
  refine v_sub (L' := [(0, .ref this), (1, .int (1 : Int32))]) [1, 0] rfl ?_
  exact vl4_findLeastWaits_2 hc hr hq hL this FU h (1 : Int32)
theorem s4_findLeastWaits : YV yX4_findLeastWaits RX4 cX4_findLeastWaits 5 none 0 := ⟨w_1030, w_1028, w_1029, w_115, rfl, by decide +kernel, by decide +kernel, by decide +kernel⟩
def f4_leastWait (h : AH) (this : Nat) : Option (Int64) := (hObj 4 h this).bind fun _ => (fI 4 4 h this).bind fun x3 => (f4_waitOf h this (((1 : Int32) <<< (x3 &&& 31)) - (1 : Int32))).bind fun x9 => some x9
theorem ob4_leastWait {h : AH} {this : Nat} {x : Int64} (e : f4_leastWait h this = some x) : ∃ fs, hObj 4 h this = some fs := by
  unfold f4_leastWait at e
  obtain ⟨fs, h1, -⟩ := bd e
  exact ⟨fs, h1⟩
set_option maxRecDepth 100000 in
theorem ct4_leastWait (l : Launch) (D : va_G) (tys : Tys) (base : Nat) (h : AH) (this : Nat) : Ct l D tys base yX4_leastWait cX4_leastWait 1 (some .long) 1 21 0 0 [.ref this] h (rL h) (f4_leastWait h this) := by
  refine Ct.intro (own := RX4) (L := [(0, .ref this)]) rfl (by decide) rfl (Nat.le_of_ble_eq_true rfl) fun κ hc hr hq hi hL => ?_
  have hn : ∀ i, i < 1 → i < κ.2.2.2.2.1 := fun i q => hL ▸ q
  unfold f4_leastWait
  refine v_obj ?_
  refine v_aload_n (i := 0) hc 0 rfl dX4_leastWait_0 rfl ?_
  refine v_iconst (x := (1 : Int32)) hc dX4_leastWait_1 zi_1 ?_
  refine v_aload_n (i := 0) hc 0 rfl dX4_leastWait_2 rfl ?_
  refine v_getV hc kX4 4 (by decide) w_313 rfl dX4_leastWait_3 (gI rfl fun x3 => ?_)
  refine v_ishl hc dX4_leastWait_6 ?_
  refine v_iconst (x := (1 : Int32)) hc dX4_leastWait_7 zi_1 ?_
  refine v_isub hc dX4_leastWait_8 ?_
  refine v_cL hc (m_V' (As := [.int (((1 : Int32) <<< (x3 &&& 31)) - (1 : Int32))]) (b := this) (rest := []) 1 hc hr (fun l D tys base => ct4_waitOf l D tys base h this (((1 : Int32) <<< (x3 &&& 31)) - (1 : Int32))) (fun x hx => ob4_waitOf hx) rfl s4_waitOf w_1039 rfl ⟨Nat.le_of_ble_eq_true rfl, Nat.le_of_ble_eq_true rfl⟩ ⟨Nat.le_of_ble_eq_true rfl, Nat.le_of_ble_eq_true rfl⟩ (Nat.le_of_ble_eq_true rfl) dX4_leastWait_9) fun x9 => ?_
  exact v_lret hc hq (Nat.le_of_ble_eq_true rfl) (Nat.le_of_ble_eq_true rfl) rfl dX4_leastWait_12
theorem s4_leastWait : YV yX4_leastWait RX4 cX4_leastWait 1 (some .long) 0 := ⟨w_1046, w_1044, w_1045, w_115, rfl, by decide +kernel, by decide +kernel, by decide +kernel⟩
def f4_firstOf_2 (h : AH) (v0 : Nat) (v1 : Int32) (v2 : Bool) : Nat → Int32 → Option (Int32)
  | 0, _ => none
  | n + 1, v3 => (fI 4 4 h v0).bind fun x4 => (if x4 ≤ v3 then some (-1 : Int32) else (f8_hasBit h v1 v3).bind fun x12 => (if x12 = true then (if v2 = true then some v3 else (f4_waitWith h v0 v1 v3).bind fun x25 => (f4_waitOf h v0 v1).bind fun x30 => (if x25 = x30 then some v3 else (some (v3 + (1 : Int32))).bind fun x39 => f4_firstOf_2 h v0 v1 v2 n x39)) else (some (v3 + (1 : Int32))).bind fun x39 => f4_firstOf_2 h v0 v1 v2 n x39))
set_option maxRecDepth 100000 in
theorem vl4_firstOf_2 {κ : Kx} (hc : CX κ RX4 cX4_firstOf) (hr : RX κ ({ frames := 2, cells := 0, slots := 0, locals := 47 } : Room)) (hq : QX κ (some .int) 0 0) (hL : 4 = κ.2.2.2.2.1)  (h : AH) (v0 : Nat) (v1 : Int32) (v2 : Bool) : ∀ n (v3 : Int32), V κ (rI h) 0 0 2 [(0, .ref v0), (1, .int v1), (2, .int (bI v2)), (3, .int v3)] [] h (f4_firstOf_2 h v0 v1 v2 n v3) := by
  have hn : ∀ i, i < 4 → i < κ.2.2.2.2.1 := fun i q => hL ▸ q
  intro n
  induction n with
  | zero => intros; exact v_none
  | succ n ih =>
    intro v3
    rw [f4_firstOf_2.eq_2]
    refine v_iload_n (i := 3) hc 3 rfl dX4_firstOf_2 rfl ?_
    refine v_aload_n (i := 0) hc 0 rfl dX4_firstOf_3 rfl ?_
    refine v_getV hc kX4 4 (by decide) w_313 rfl dX4_firstOf_4 (gI rfl fun x4 => ?_)
    refine v_icmp_ge hc 45 dX4_firstOf_7 rfl ?_ ?_
    · refine v_iconst (x := (-1 : Int32)) hc dX4_firstOf_45 zi_m1 ?_
      exact v_iret hc hq rfl rfl (Nat.le_of_ble_eq_true rfl) (Nat.le_of_ble_eq_true rfl) rfl dX4_firstOf_46
    · refine v_iload_n (i := 1) hc 1 rfl dX4_firstOf_10 rfl ?_
      refine v_iload_n (i := 3) hc 3 rfl dX4_firstOf_11 rfl ?_
      refine v_cB hc (m_SN' (As := [.int v1, .int v3]) (rest := []) 2 hc hr (fun l D tys base => ct8_hasBit l D tys base h v1 v3) s8_hasBit w_1032 rfl ⟨Nat.le_of_ble_eq_true rfl, Nat.le_of_ble_eq_true rfl⟩ ⟨Nat.le_of_ble_eq_true rfl, Nat.le_of_ble_eq_true rfl⟩ (Nat.le_of_ble_eq_true rfl) dX4_firstOf_12) fun x12 => ?_
      refine v_ifb_eq hc 39 dX4_firstOf_15 rfl ?_ ?_
      · refine v_iincN (i := 3) (y := (1 : Int32)) (L' := fun z => [(3, .int z), (0, .ref v0), (1, .int v1), (2, .int (bI v2))]) hc 3 rfl dX4_firstOf_39 zi_1 (hn 3 (Nat.le_of_ble_eq_true rfl)) (fun _ => rfl) fun x39 => ?_
        refine v_goto hc 2 dX4_firstOf_42 rfl ?_
        refine v_sub (L' := [(0, .ref v0), (1, .int v1), (2, .int (bI v2)), (3, .int x39)]) [1, 2, 3, 0] rfl ?_
        exact ih x39
      · refine v_iload_n (i := 2) hc 2 rfl dX4_firstOf_18 rfl ?_
        refine v_ifb_ne hc 37 dX4_firstOf_19 rfl ?_ ?_
        · refine v_iload_n (i := 3) hc 3 rfl dX4_firstOf_37 rfl ?_
          exact v_iret hc hq rfl rfl (Nat.le_of_ble_eq_true rfl) (Nat.le_of_ble_eq_true rfl) rfl dX4_firstOf_38
        · refine v_aload_n (i := 0) hc 0 rfl dX4_firstOf_22 rfl ?_
          refine v_iload_n (i := 1) hc 1 rfl dX4_firstOf_23 rfl ?_
          refine v_iload_n (i := 3) hc 3 rfl dX4_firstOf_24 rfl ?_
          refine v_cL hc (m_V' (As := [.int v1, .int v3]) (b := v0) (rest := []) 2 hc hr (fun l D tys base => ct4_waitWith l D tys base h v0 v1 v3) (fun x hx => ob4_waitWith hx) rfl s4_waitWith w_1033 rfl ⟨Nat.le_of_ble_eq_true rfl, Nat.le_of_ble_eq_true rfl⟩ ⟨Nat.le_of_ble_eq_true rfl, Nat.le_of_ble_eq_true rfl⟩ (Nat.le_of_ble_eq_true rfl) dX4_firstOf_25) fun x25 => ?_
          refine v_aload_n (i := 0) hc 0 rfl dX4_firstOf_28 rfl ?_
          refine v_iload_n (i := 1) hc 1 rfl dX4_firstOf_29 rfl ?_
          refine v_cL hc (m_V' (As := [.int v1]) (b := v0) (rest := [.long x25]) 1 hc hr (fun l D tys base => ct4_waitOf l D tys base h v0 v1) (fun x hx => ob4_waitOf hx) rfl s4_waitOf w_1039 rfl ⟨Nat.le_of_ble_eq_true rfl, Nat.le_of_ble_eq_true rfl⟩ ⟨Nat.le_of_ble_eq_true rfl, Nat.le_of_ble_eq_true rfl⟩ (Nat.le_of_ble_eq_true rfl) dX4_firstOf_30) fun x30 => ?_
          refine v_lcmp_ne hc 39 dX4_firstOf_33 dX4_firstOf_34 rfl ?_ ?_
          · refine v_iincN (i := 3) (y := (1 : Int32)) (L' := fun z => [(3, .int z), (0, .ref v0), (1, .int v1), (2, .int (bI v2))]) hc 3 rfl dX4_firstOf_39 zi_1 (hn 3 (Nat.le_of_ble_eq_true rfl)) (fun _ => rfl) fun x39 => ?_
            refine v_goto hc 2 dX4_firstOf_42 rfl ?_
            refine v_sub (L' := [(0, .ref v0), (1, .int v1), (2, .int (bI v2)), (3, .int x39)]) [1, 2, 3, 0] rfl ?_
            exact ih x39
          · refine v_iload_n (i := 3) hc 3 rfl dX4_firstOf_37 rfl ?_
            exact v_iret hc hq rfl rfl (Nat.le_of_ble_eq_true rfl) (Nat.le_of_ble_eq_true rfl) rfl dX4_firstOf_38
def f4_firstOf (h : AH) (this : Nat) (p0 : Int32) (p1 : Bool) : Option (Int32) := (hObj 4 h this).bind fun _ => f4_firstOf_2 h this p0 p1 FU (0 : Int32)
theorem ob4_firstOf {h : AH} {this : Nat} {p0 : Int32} {p1 : Bool} {x : Int32} (e : f4_firstOf h this p0 p1 = some x) : ∃ fs, hObj 4 h this = some fs := by
  unfold f4_firstOf at e
  obtain ⟨fs, h1, -⟩ := bd e
  exact ⟨fs, h1⟩
set_option maxRecDepth 100000 in
theorem ct4_firstOf (l : Launch) (D : va_G) (tys : Tys) (base : Nat) (h : AH) (this : Nat) (p0 : Int32) (p1 : Bool) : Ct l D tys base yX4_firstOf cX4_firstOf 4 (some .int) 2 47 0 0 [.ref this, .int p0, .int (bI p1)] h (rI h) (f4_firstOf h this p0 p1) := by
  refine Ct.intro (own := RX4) (L := [(0, .ref this), (1, .int p0), (2, .int (bI p1))]) rfl (by decide) rfl (Nat.le_of_ble_eq_true rfl) fun κ hc hr hq hi hL => ?_
  have hn : ∀ i, i < 4 → i < κ.2.2.2.2.1 := fun i q => hL ▸ q
  unfold f4_firstOf
  refine v_obj ?_
  refine v_iconst (x := (0 : Int32)) hc dX4_firstOf_0 zi_0 ?_
  refine v_istore_n (i := 3) (L' := [(3, .int (0 : Int32)), (0, .ref this), (1, .int p0), (2, .int (bI p1))]) hc dX4_firstOf_1 rfl (hn 3 (Nat.le_of_ble_eq_true rfl)) rfl ?_
  refine v_sub (L' := [(0, .ref this), (1, .int p0), (2, .int (bI p1)), (3, .int (0 : Int32))]) [1, 2, 3, 0] rfl ?_
  exact vl4_firstOf_2 hc hr hq hL h this p0 p1 FU (0 : Int32)
theorem s4_firstOf : YV yX4_firstOf RX4 cX4_firstOf 4 (some .int) 2 := ⟨w_1054, w_1053, w_43, w_115, rfl, by decide +kernel, by decide +kernel, by decide +kernel⟩
def f4_readerInPlace_14 (h : AH) (v0 : Nat) (v1 : Int32) : Nat → Int32 → Bool → Int32 → Option (Int32)
  | 0, _, _, _ => none
  | n + 1, v2, v3, v4 => (fI 4 4 h v0).bind fun x17 => (if x17 ≤ v4 then some (-1 : Int32) else (f4_firstOf h v0 v2 v3).bind fun x26 => (if x26 < 0 then some (-1 : Int32) else (if x26 < (6 : Int32) then (if v4 = v1 then (fR 4 0 h v0).bind fun x52 => (aI 0 h x52 x26).bind fun x57 => some x57 else (if v3 = true then (some (v2 &&& (((1 : Int32) <<< (x26 &&& 31)) ^^^ (-1 : Int32)))).bind fun x87 => (some (v4 + (1 : Int32))).bind fun x88 => f4_readerInPlace_14 h v0 v1 n x87 true x88 else (fR 4 1 h v0).bind fun x64 => (aI 0 h x64 x26).bind fun x69 => (if x69 = 0 then (some (v2 &&& (((1 : Int32) <<< (x26 &&& 31)) ^^^ (-1 : Int32)))).bind fun x87 => (some (v4 + (1 : Int32))).bind fun x88 => f4_readerInPlace_14 h v0 v1 n x87 true x88 else (some (v2 &&& (((1 : Int32) <<< (x26 &&& 31)) ^^^ (-1 : Int32)))).bind fun x87 => (some (v4 + (1 : Int32))).bind fun x88 => f4_readerInPlace_14 h v0 v1 n x87 false x88))) else some (-1 : Int32))))
set_option maxRecDepth 100000 in
theorem vl4_readerInPlace_14 {κ : Kx} (hc : CX κ RX4 cX4_readerInPlace) (hr : RX κ ({ frames := 3, cells := 0, slots := 0, locals := 70 } : Room)) (hq : QX κ (some .int) 0 0) (hL : 6 = κ.2.2.2.2.1)  (h : AH) (v0 : Nat) (v1 : Int32) : ∀ n (v2 : Int32) (v3 : Bool) (v4 : Int32), V κ (rI h) 0 0 14 [(0, .ref v0), (1, .int v1), (2, .int v2), (3, .int (bI v3)), (4, .int v4)] [] h (f4_readerInPlace_14 h v0 v1 n v2 v3 v4) := by
  have hn : ∀ i, i < 6 → i < κ.2.2.2.2.1 := fun i q => hL ▸ q
  intro n
  induction n with
  | zero => intros; exact v_none
  | succ n ih =>
    intro v2 v3 v4
    rw [f4_readerInPlace_14.eq_2]
    refine v_iload (i := 4) hc 4 rfl dX4_readerInPlace_14 ?_
    refine v_aload_n (i := 0) hc 0 rfl dX4_readerInPlace_16 rfl ?_
    refine v_getV hc kX4 4 (by decide) w_313 rfl dX4_readerInPlace_17 (gI rfl fun x17 => ?_)
    refine v_icmp_ge hc 94 dX4_readerInPlace_20 rfl ?_ ?_
    · refine v_iconst (x := (-1 : Int32)) hc dX4_readerInPlace_94 zi_m1 ?_
      exact v_iret hc hq rfl rfl (Nat.le_of_ble_eq_true rfl) (Nat.le_of_ble_eq_true rfl) rfl dX4_readerInPlace_95
    · refine v_aload_n (i := 0) hc 0 rfl dX4_readerInPlace_23 rfl ?_
      refine v_iload_n (i := 2) hc 2 rfl dX4_readerInPlace_24 rfl ?_
      refine v_iload_n (i := 3) hc 3 rfl dX4_readerInPlace_25 rfl ?_
      refine v_cI hc (m_V' (As := [.int v2, .int (bI v3)]) (b := v0) (rest := []) 2 hc hr (fun l D tys base => ct4_firstOf l D tys base h v0 v2 v3) (fun x hx => ob4_firstOf hx) rfl s4_firstOf w_1051 rfl ⟨Nat.le_of_ble_eq_true rfl, Nat.le_of_ble_eq_true rfl⟩ ⟨Nat.le_of_ble_eq_true rfl, Nat.le_of_ble_eq_true rfl⟩ (Nat.le_of_ble_eq_true rfl) dX4_readerInPlace_26) fun x26 => ?_
      refine v_istore (i := 5) (L' := [(5, .int x26), (0, .ref v0), (1, .int v1), (2, .int v2), (3, .int (bI v3)), (4, .int v4)]) hc dX4_readerInPlace_29 (hn 5 (Nat.le_of_ble_eq_true rfl)) rfl ?_
      refine v_iload (i := 5) hc 0 rfl dX4_readerInPlace_31 ?_
      refine v_if_lt hc 43 dX4_readerInPlace_33 rfl ?_ ?_
      · refine v_iconst (x := (-1 : Int32)) hc dX4_readerInPlace_43 zi_m1 ?_
        exact v_iret hc hq rfl rfl (Nat.le_of_ble_eq_true rfl) (Nat.le_of_ble_eq_true rfl) rfl dX4_readerInPlace_44
      · refine v_iload (i := 5) hc 0 rfl dX4_readerInPlace_36 ?_
        refine v_bipush (x := (6 : Int32)) hc dX4_readerInPlace_38 zb_6 ?_
        refine v_icmp_lt hc 45 dX4_readerInPlace_40 rfl ?_ ?_
        · refine v_iload (i := 4) hc 5 rfl dX4_readerInPlace_45 ?_
          refine v_iload_n (i := 1) hc 2 rfl dX4_readerInPlace_47 rfl ?_
          refine v_icmp_ne hc 59 dX4_readerInPlace_48 rfl ?_ ?_
          · refine v_iload_n (i := 3) hc 4 rfl dX4_readerInPlace_59 rfl ?_
            refine v_ifb_ne hc 73 dX4_readerInPlace_60 rfl ?_ ?_
            · refine v_iconst (x := (1 : Int32)) hc dX4_readerInPlace_73 zi_1 ?_
              refine v_goto hc 78 dX4_readerInPlace_74 rfl ?_
              refine v_istore_n (i := 3) (L' := [(3, .int (1 : Int32)), (5, .int x26), (0, .ref v0), (1, .int v1), (2, .int v2), (4, .int v4)]) hc dX4_readerInPlace_78 rfl (hn 3 (Nat.le_of_ble_eq_true rfl)) rfl ?_
              refine v_iload_n (i := 2) hc 4 rfl dX4_readerInPlace_79 rfl ?_
              refine v_iconst (x := (1 : Int32)) hc dX4_readerInPlace_80 zi_1 ?_
              refine v_iload (i := 5) hc 1 rfl dX4_readerInPlace_81 ?_
              refine v_ishl hc dX4_readerInPlace_83 ?_
              refine v_iconst (x := (-1 : Int32)) hc dX4_readerInPlace_84 zi_m1 ?_
              refine v_ixor hc dX4_readerInPlace_85 ?_
              refine v_iand hc dX4_readerInPlace_86 ?_
              refine v_nmI fun x87 => ?_
              refine v_istore_n (i := 2) (L' := [(2, .int x87), (3, .int (1 : Int32)), (5, .int x26), (0, .ref v0), (1, .int v1), (4, .int v4)]) hc dX4_readerInPlace_87 rfl (hn 2 (Nat.le_of_ble_eq_true rfl)) rfl ?_
              refine v_iincN (i := 4) (y := (1 : Int32)) (L' := fun z => [(4, .int z), (2, .int x87), (3, .int (1 : Int32)), (5, .int x26), (0, .ref v0), (1, .int v1)]) hc 5 rfl dX4_readerInPlace_88 zi_1 (hn 4 (Nat.le_of_ble_eq_true rfl)) (fun _ => rfl) fun x88 => ?_
              refine v_goto hc 14 dX4_readerInPlace_91 rfl ?_
              refine v_sub (L' := [(0, .ref v0), (1, .int v1), (2, .int x87), (3, .int (bI true)), (4, .int x88)]) [4, 5, 1, 2, 0] rfl ?_
              exact ih x87 true x88
            · refine v_aload_n (i := 0) hc 1 rfl dX4_readerInPlace_63 rfl ?_
              refine v_getV hc kX4 1 (by decide) w_310 rfl dX4_readerInPlace_64 (gR rfl fun x64 => ?_)
              refine v_iload (i := 5) hc 0 rfl dX4_readerInPlace_67 ?_
              refine v_iald hc dX4_readerInPlace_69 fun x69 => ?_
              refine v_if_ne hc 77 dX4_readerInPlace_70 rfl ?_ ?_
              · refine v_iconst (x := (0 : Int32)) hc dX4_readerInPlace_77 zi_0 ?_
                refine v_istore_n (i := 3) (L' := [(3, .int (0 : Int32)), (5, .int x26), (0, .ref v0), (1, .int v1), (2, .int v2), (4, .int v4)]) hc dX4_readerInPlace_78 rfl (hn 3 (Nat.le_of_ble_eq_true rfl)) rfl ?_
                refine v_iload_n (i := 2) hc 4 rfl dX4_readerInPlace_79 rfl ?_
                refine v_iconst (x := (1 : Int32)) hc dX4_readerInPlace_80 zi_1 ?_
                refine v_iload (i := 5) hc 1 rfl dX4_readerInPlace_81 ?_
                refine v_ishl hc dX4_readerInPlace_83 ?_
                refine v_iconst (x := (-1 : Int32)) hc dX4_readerInPlace_84 zi_m1 ?_
                refine v_ixor hc dX4_readerInPlace_85 ?_
                refine v_iand hc dX4_readerInPlace_86 ?_
                refine v_nmI fun x87 => ?_
                refine v_istore_n (i := 2) (L' := [(2, .int x87), (3, .int (0 : Int32)), (5, .int x26), (0, .ref v0), (1, .int v1), (4, .int v4)]) hc dX4_readerInPlace_87 rfl (hn 2 (Nat.le_of_ble_eq_true rfl)) rfl ?_
                refine v_iincN (i := 4) (y := (1 : Int32)) (L' := fun z => [(4, .int z), (2, .int x87), (3, .int (0 : Int32)), (5, .int x26), (0, .ref v0), (1, .int v1)]) hc 5 rfl dX4_readerInPlace_88 zi_1 (hn 4 (Nat.le_of_ble_eq_true rfl)) (fun _ => rfl) fun x88 => ?_
                refine v_goto hc 14 dX4_readerInPlace_91 rfl ?_
                refine v_sub (L' := [(0, .ref v0), (1, .int v1), (2, .int x87), (3, .int (bI false)), (4, .int x88)]) [4, 5, 1, 2, 0] rfl ?_
                exact ih x87 false x88
              · refine v_iconst (x := (1 : Int32)) hc dX4_readerInPlace_73 zi_1 ?_
                refine v_goto hc 78 dX4_readerInPlace_74 rfl ?_
                refine v_istore_n (i := 3) (L' := [(3, .int (1 : Int32)), (5, .int x26), (0, .ref v0), (1, .int v1), (2, .int v2), (4, .int v4)]) hc dX4_readerInPlace_78 rfl (hn 3 (Nat.le_of_ble_eq_true rfl)) rfl ?_
                refine v_iload_n (i := 2) hc 4 rfl dX4_readerInPlace_79 rfl ?_
                refine v_iconst (x := (1 : Int32)) hc dX4_readerInPlace_80 zi_1 ?_
                refine v_iload (i := 5) hc 1 rfl dX4_readerInPlace_81 ?_
                refine v_ishl hc dX4_readerInPlace_83 ?_
                refine v_iconst (x := (-1 : Int32)) hc dX4_readerInPlace_84 zi_m1 ?_
                refine v_ixor hc dX4_readerInPlace_85 ?_
                refine v_iand hc dX4_readerInPlace_86 ?_
                refine v_nmI fun x87 => ?_
                refine v_istore_n (i := 2) (L' := [(2, .int x87), (3, .int (1 : Int32)), (5, .int x26), (0, .ref v0), (1, .int v1), (4, .int v4)]) hc dX4_readerInPlace_87 rfl (hn 2 (Nat.le_of_ble_eq_true rfl)) rfl ?_
                refine v_iincN (i := 4) (y := (1 : Int32)) (L' := fun z => [(4, .int z), (2, .int x87), (3, .int (1 : Int32)), (5, .int x26), (0, .ref v0), (1, .int v1)]) hc 5 rfl dX4_readerInPlace_88 zi_1 (hn 4 (Nat.le_of_ble_eq_true rfl)) (fun _ => rfl) fun x88 => ?_
                refine v_goto hc 14 dX4_readerInPlace_91 rfl ?_
                refine v_sub (L' := [(0, .ref v0), (1, .int v1), (2, .int x87), (3, .int (bI true)), (4, .int x88)]) [4, 5, 1, 2, 0] rfl ?_
                exact ih x87 true x88
          · refine v_aload_n (i := 0) hc 1 rfl dX4_readerInPlace_51 rfl ?_
            refine v_getV hc kX4 0 (by decide) w_309 rfl dX4_readerInPlace_52 (gR rfl fun x52 => ?_)
            refine v_iload (i := 5) hc 0 rfl dX4_readerInPlace_55 ?_
            refine v_iald hc dX4_readerInPlace_57 fun x57 => ?_
            exact v_iret hc hq rfl rfl (Nat.le_of_ble_eq_true rfl) (Nat.le_of_ble_eq_true rfl) rfl dX4_readerInPlace_58
        · refine v_iconst (x := (-1 : Int32)) hc dX4_readerInPlace_43 zi_m1 ?_
          exact v_iret hc hq rfl rfl (Nat.le_of_ble_eq_true rfl) (Nat.le_of_ble_eq_true rfl) rfl dX4_readerInPlace_44
def f4_readerInPlace (h : AH) (this : Nat) (p0 : Int32) : Option (Int32) := (hObj 4 h this).bind fun _ => (fI 4 4 h this).bind fun x2 => (some (((1 : Int32) <<< (x2 &&& 31)) - (1 : Int32))).bind fun x8 => f4_readerInPlace_14 h this p0 FU x8 false (0 : Int32)
theorem ob4_readerInPlace {h : AH} {this : Nat} {p0 : Int32} {x : Int32} (e : f4_readerInPlace h this p0 = some x) : ∃ fs, hObj 4 h this = some fs := by
  unfold f4_readerInPlace at e
  obtain ⟨fs, h1, -⟩ := bd e
  exact ⟨fs, h1⟩
set_option maxRecDepth 100000 in
theorem ct4_readerInPlace (l : Launch) (D : va_G) (tys : Tys) (base : Nat) (h : AH) (this : Nat) (p0 : Int32) : Ct l D tys base yX4_readerInPlace cX4_readerInPlace 6 (some .int) 3 70 0 0 [.ref this, .int p0] h (rI h) (f4_readerInPlace h this p0) := by
  refine Ct.intro (own := RX4) (L := [(0, .ref this), (1, .int p0)]) rfl (by decide) rfl (Nat.le_of_ble_eq_true rfl) fun κ hc hr hq hi hL => ?_
  have hn : ∀ i, i < 6 → i < κ.2.2.2.2.1 := fun i q => hL ▸ q
  unfold f4_readerInPlace
  refine v_obj ?_
  refine v_iconst (x := (1 : Int32)) hc dX4_readerInPlace_0 zi_1 ?_
  refine v_aload_n (i := 0) hc 0 rfl dX4_readerInPlace_1 rfl ?_
  refine v_getV hc kX4 4 (by decide) w_313 rfl dX4_readerInPlace_2 (gI rfl fun x2 => ?_)
  refine v_ishl hc dX4_readerInPlace_5 ?_
  refine v_iconst (x := (1 : Int32)) hc dX4_readerInPlace_6 zi_1 ?_
  refine v_isub hc dX4_readerInPlace_7 ?_
  refine v_nmI fun x8 => ?_
  refine v_istore_n (i := 2) (L' := [(2, .int x8), (0, .ref this), (1, .int p0)]) hc dX4_readerInPlace_8 rfl (hn 2 (Nat.le_of_ble_eq_true rfl)) rfl ?_
  refine v_iconst (x := (0 : Int32)) hc dX4_readerInPlace_9 zi_0 ?_
  refine v_istore_n (i := 3) (L' := [(3, .int (0 : Int32)), (2, .int x8), (0, .ref this), (1, .int p0)]) hc dX4_readerInPlace_10 rfl (hn 3 (Nat.le_of_ble_eq_true rfl)) rfl ?_
  refine v_iconst (x := (0 : Int32)) hc dX4_readerInPlace_11 zi_0 ?_
  refine v_istore (i := 4) (L' := [(4, .int (0 : Int32)), (3, .int (0 : Int32)), (2, .int x8), (0, .ref this), (1, .int p0)]) hc dX4_readerInPlace_12 (hn 4 (Nat.le_of_ble_eq_true rfl)) rfl ?_
  refine v_sub (L' := [(0, .ref this), (1, .int p0), (2, .int x8), (3, .int (bI false)), (4, .int (0 : Int32))]) [3, 4, 2, 1, 0] rfl ?_
  exact vl4_readerInPlace_14 hc hr hq hL h this p0 FU x8 false (0 : Int32)
theorem s4_readerInPlace : YV yX4_readerInPlace RX4 cX4_readerInPlace 6 (some .int) 1 := ⟨w_1050, w_1048, w_1049, w_115, rfl, by decide +kernel, by decide +kernel, by decide +kernel⟩
def f4_chanceOfAll_5 (h : AH) (v0 : Nat) (v1 : Int32) : Nat → Int64 → Int32 → Option (Int64)
  | 0, _, _ => none
  | n + 1, v2, v4 => (fI 4 4 h v0).bind fun x8 => (if x8 ≤ v4 then some v2 else (if (6 : Int32) ≤ v4 then some v2 else (f8_hasBit h v1 v4).bind fun x25 => (if x25 = true then (fR 4 1 h v0).bind fun x32 => (aI 0 h x32 v4).bind fun x37 => (some (v2 * x37.toInt64)).bind fun x46 => (some (v4 + (1 : Int32))).bind fun x47 => f4_chanceOfAll_5 h v0 v1 n x46 x47 else (some (v2 * (1000 : Int64))).bind fun x46 => (some (v4 + (1 : Int32))).bind fun x47 => f4_chanceOfAll_5 h v0 v1 n x46 x47)))
set_option maxRecDepth 100000 in
theorem vl4_chanceOfAll_5 {κ : Kx} (hc : CX κ RX4 cX4_chanceOfAll) (hr : RX κ ({ frames := 1, cells := 0, slots := 0, locals := 21 } : Room)) (hq : QX κ (some .long) 0 0) (hL : 5 = κ.2.2.2.2.1)  (h : AH) (v0 : Nat) (v1 : Int32) : ∀ n (v2 : Int64) (v4 : Int32), V κ (rL h) 0 0 5 [(0, .ref v0), (1, .int v1), (2, .long v2), (4, .int v4)] [] h (f4_chanceOfAll_5 h v0 v1 n v2 v4) := by
  have hn : ∀ i, i < 5 → i < κ.2.2.2.2.1 := fun i q => hL ▸ q
  intro n
  induction n with
  | zero => intros; exact v_none
  | succ n ih =>
    intro v2 v4
    rw [f4_chanceOfAll_5.eq_2]
    refine v_iload (i := 4) hc 3 rfl dX4_chanceOfAll_5 ?_
    refine v_aload_n (i := 0) hc 0 rfl dX4_chanceOfAll_7 rfl ?_
    refine v_getV hc kX4 4 (by decide) w_313 rfl dX4_chanceOfAll_8 (gI rfl fun x8 => ?_)
    refine v_icmp_ge hc 53 dX4_chanceOfAll_11 rfl ?_ ?_
    · refine v_lload_n (i := 2) hc 2 rfl dX4_chanceOfAll_53 rfl ?_
      exact v_lret hc hq (Nat.le_of_ble_eq_true rfl) (Nat.le_of_ble_eq_true rfl) rfl dX4_chanceOfAll_54
    · refine v_iload (i := 4) hc 3 rfl dX4_chanceOfAll_14 ?_
      refine v_bipush (x := (6 : Int32)) hc dX4_chanceOfAll_16 zb_6 ?_
      refine v_icmp_ge hc 53 dX4_chanceOfAll_18 rfl ?_ ?_
      · refine v_lload_n (i := 2) hc 2 rfl dX4_chanceOfAll_53 rfl ?_
        exact v_lret hc hq (Nat.le_of_ble_eq_true rfl) (Nat.le_of_ble_eq_true rfl) rfl dX4_chanceOfAll_54
      · refine v_lload_n (i := 2) hc 2 rfl dX4_chanceOfAll_21 rfl ?_
        refine v_iload_n (i := 1) hc 1 rfl dX4_chanceOfAll_22 rfl ?_
        refine v_iload (i := 4) hc 3 rfl dX4_chanceOfAll_23 ?_
        refine v_cB hc (m_SN' (As := [.int v1, .int v4]) (rest := [.long v2]) 2 hc hr (fun l D tys base => ct8_hasBit l D tys base h v1 v4) s8_hasBit w_1032 rfl ⟨Nat.le_of_ble_eq_true rfl, Nat.le_of_ble_eq_true rfl⟩ ⟨Nat.le_of_ble_eq_true rfl, Nat.le_of_ble_eq_true rfl⟩ (Nat.le_of_ble_eq_true rfl) dX4_chanceOfAll_25) fun x25 => ?_
        refine v_ifb_eq hc 42 dX4_chanceOfAll_28 rfl ?_ ?_
        · refine v_ldc2 (x := (1000 : Int64)) hc w_1038 dX4_chanceOfAll_42 ?_
          refine v_lmul hc dX4_chanceOfAll_45 ?_
          refine v_nmL fun x46 => ?_
          refine v_lstore_n (i := 2) (L' := [(2, .long x46), (0, .ref v0), (1, .int v1), (4, .int v4)]) hc dX4_chanceOfAll_46 rfl (hn 3 (Nat.le_of_ble_eq_true rfl)) rfl ?_
          refine v_iincN (i := 4) (y := (1 : Int32)) (L' := fun z => [(4, .int z), (2, .long x46), (0, .ref v0), (1, .int v1)]) hc 3 rfl dX4_chanceOfAll_47 zi_1 (hn 4 (Nat.le_of_ble_eq_true rfl)) (fun _ => rfl) fun x47 => ?_
          refine v_goto hc 5 dX4_chanceOfAll_50 rfl ?_
          refine v_sub (L' := [(0, .ref v0), (1, .int v1), (2, .long x46), (4, .int x47)]) [2, 3, 1, 0] rfl ?_
          exact ih x46 x47
        · refine v_aload_n (i := 0) hc 0 rfl dX4_chanceOfAll_31 rfl ?_
          refine v_getV hc kX4 1 (by decide) w_310 rfl dX4_chanceOfAll_32 (gR rfl fun x32 => ?_)
          refine v_iload (i := 4) hc 3 rfl dX4_chanceOfAll_35 ?_
          refine v_iald hc dX4_chanceOfAll_37 fun x37 => ?_
          refine v_i2l hc dX4_chanceOfAll_38 ?_
          refine v_goto hc 45 dX4_chanceOfAll_39 rfl ?_
          refine v_lmul hc dX4_chanceOfAll_45 ?_
          refine v_nmL fun x46 => ?_
          refine v_lstore_n (i := 2) (L' := [(2, .long x46), (0, .ref v0), (1, .int v1), (4, .int v4)]) hc dX4_chanceOfAll_46 rfl (hn 3 (Nat.le_of_ble_eq_true rfl)) rfl ?_
          refine v_iincN (i := 4) (y := (1 : Int32)) (L' := fun z => [(4, .int z), (2, .long x46), (0, .ref v0), (1, .int v1)]) hc 3 rfl dX4_chanceOfAll_47 zi_1 (hn 4 (Nat.le_of_ble_eq_true rfl)) (fun _ => rfl) fun x47 => ?_
          refine v_goto hc 5 dX4_chanceOfAll_50 rfl ?_
          refine v_sub (L' := [(0, .ref v0), (1, .int v1), (2, .long x46), (4, .int x47)]) [2, 3, 1, 0] rfl ?_
          exact ih x46 x47
def f4_chanceOfAll (h : AH) (this : Nat) (p0 : Int32) : Option (Int64) := (hObj 4 h this).bind fun _ => (some (1 : Int64)).bind fun x1 => f4_chanceOfAll_5 h this p0 FU x1 (0 : Int32)
theorem ob4_chanceOfAll {h : AH} {this : Nat} {p0 : Int32} {x : Int64} (e : f4_chanceOfAll h this p0 = some x) : ∃ fs, hObj 4 h this = some fs := by
  unfold f4_chanceOfAll at e
  obtain ⟨fs, h1, -⟩ := bd e
  exact ⟨fs, h1⟩
set_option maxRecDepth 100000 in
theorem ct4_chanceOfAll (l : Launch) (D : va_G) (tys : Tys) (base : Nat) (h : AH) (this : Nat) (p0 : Int32) : Ct l D tys base yX4_chanceOfAll cX4_chanceOfAll 5 (some .long) 1 21 0 0 [.ref this, .int p0] h (rL h) (f4_chanceOfAll h this p0) := by
  refine Ct.intro (own := RX4) (L := [(0, .ref this), (1, .int p0)]) rfl (by decide) rfl (Nat.le_of_ble_eq_true rfl) fun κ hc hr hq hi hL => ?_
  have hn : ∀ i, i < 5 → i < κ.2.2.2.2.1 := fun i q => hL ▸ q
  unfold f4_chanceOfAll
  refine v_obj ?_
  refine v_lconst (x := (1 : Int64)) hc dX4_chanceOfAll_0 (by decide) ?_
  refine v_nmL fun x1 => ?_
  refine v_lstore_n (i := 2) (L' := [(2, .long x1), (0, .ref this), (1, .int p0)]) hc dX4_chanceOfAll_1 rfl (hn 3 (Nat.le_of_ble_eq_true rfl)) rfl ?_
  refine v_iconst (x := (0 : Int32)) hc dX4_chanceOfAll_2 zi_0 ?_
  refine v_istore (i := 4) (L' := [(4, .int (0 : Int32)), (2, .long x1), (0, .ref this), (1, .int p0)]) hc dX4_chanceOfAll_3 (hn 4 (Nat.le_of_ble_eq_true rfl)) rfl ?_
  refine v_sub (L' := [(0, .ref this), (1, .int p0), (2, .long x1), (4, .int (0 : Int32))]) [2, 3, 1, 0] rfl ?_
  exact vl4_chanceOfAll_5 hc hr hq hL h this p0 FU x1 (0 : Int32)
theorem s4_chanceOfAll : YV yX4_chanceOfAll RX4 cX4_chanceOfAll 5 (some .long) 1 := ⟨w_1066, w_1065, w_44, w_115, rfl, by decide +kernel, by decide +kernel, by decide +kernel⟩
def f4_coinsOf_4 (h : AH) (v0 : Nat) (v1 : Int32) : Nat → Int32 → Int32 → Option (Int32)
  | 0, _, _ => none
  | n + 1, v2, v3 => (fI 4 4 h v0).bind fun x6 => (if x6 ≤ v3 then some v2 else (if (6 : Int32) ≤ v3 then some v2 else (f8_hasBit h v1 v3).bind fun x21 => (if x21 = true then (fR 4 3 h v0).bind fun x28 => (aI 0 h x28 v3).bind fun x32 => (some (v2 + x32)).bind fun x38 => (some (v3 + (1 : Int32))).bind fun x39 => f4_coinsOf_4 h v0 v1 n x38 x39 else (some (v2 + (0 : Int32))).bind fun x38 => (some (v3 + (1 : Int32))).bind fun x39 => f4_coinsOf_4 h v0 v1 n x38 x39)))
set_option maxRecDepth 100000 in
theorem vl4_coinsOf_4 {κ : Kx} (hc : CX κ RX4 cX4_coinsOf) (hr : RX κ ({ frames := 1, cells := 0, slots := 0, locals := 21 } : Room)) (hq : QX κ (some .int) 0 0) (hL : 4 = κ.2.2.2.2.1)  (h : AH) (v0 : Nat) (v1 : Int32) : ∀ n (v2 : Int32) (v3 : Int32), V κ (rI h) 0 0 4 [(0, .ref v0), (1, .int v1), (2, .int v2), (3, .int v3)] [] h (f4_coinsOf_4 h v0 v1 n v2 v3) := by
  have hn : ∀ i, i < 4 → i < κ.2.2.2.2.1 := fun i q => hL ▸ q
  intro n
  induction n with
  | zero => intros; exact v_none
  | succ n ih =>
    intro v2 v3
    rw [f4_coinsOf_4.eq_2]
    refine v_iload_n (i := 3) hc 3 rfl dX4_coinsOf_4 rfl ?_
    refine v_aload_n (i := 0) hc 0 rfl dX4_coinsOf_5 rfl ?_
    refine v_getV hc kX4 4 (by decide) w_313 rfl dX4_coinsOf_6 (gI rfl fun x6 => ?_)
    refine v_icmp_ge hc 45 dX4_coinsOf_9 rfl ?_ ?_
    · refine v_iload_n (i := 2) hc 2 rfl dX4_coinsOf_45 rfl ?_
      exact v_iret hc hq rfl rfl (Nat.le_of_ble_eq_true rfl) (Nat.le_of_ble_eq_true rfl) rfl dX4_coinsOf_46
    · refine v_iload_n (i := 3) hc 3 rfl dX4_coinsOf_12 rfl ?_
      refine v_bipush (x := (6 : Int32)) hc dX4_coinsOf_13 zb_6 ?_
      refine v_icmp_ge hc 45 dX4_coinsOf_15 rfl ?_ ?_
      · refine v_iload_n (i := 2) hc 2 rfl dX4_coinsOf_45 rfl ?_
        exact v_iret hc hq rfl rfl (Nat.le_of_ble_eq_true rfl) (Nat.le_of_ble_eq_true rfl) rfl dX4_coinsOf_46
      · refine v_iload_n (i := 2) hc 2 rfl dX4_coinsOf_18 rfl ?_
        refine v_iload_n (i := 1) hc 1 rfl dX4_coinsOf_19 rfl ?_
        refine v_iload_n (i := 3) hc 3 rfl dX4_coinsOf_20 rfl ?_
        refine v_cB hc (m_SN' (As := [.int v1, .int v3]) (rest := [.int v2]) 2 hc hr (fun l D tys base => ct8_hasBit l D tys base h v1 v3) s8_hasBit w_1032 rfl ⟨Nat.le_of_ble_eq_true rfl, Nat.le_of_ble_eq_true rfl⟩ ⟨Nat.le_of_ble_eq_true rfl, Nat.le_of_ble_eq_true rfl⟩ (Nat.le_of_ble_eq_true rfl) dX4_coinsOf_21) fun x21 => ?_
        refine v_ifb_eq hc 36 dX4_coinsOf_24 rfl ?_ ?_
        · refine v_iconst (x := (0 : Int32)) hc dX4_coinsOf_36 zi_0 ?_
          refine v_iadd hc dX4_coinsOf_37 ?_
          refine v_nmI fun x38 => ?_
          refine v_istore_n (i := 2) (L' := [(2, .int x38), (0, .ref v0), (1, .int v1), (3, .int v3)]) hc dX4_coinsOf_38 rfl (hn 2 (Nat.le_of_ble_eq_true rfl)) rfl ?_
          refine v_iincN (i := 3) (y := (1 : Int32)) (L' := fun z => [(3, .int z), (2, .int x38), (0, .ref v0), (1, .int v1)]) hc 3 rfl dX4_coinsOf_39 zi_1 (hn 3 (Nat.le_of_ble_eq_true rfl)) (fun _ => rfl) fun x39 => ?_
          refine v_goto hc 4 dX4_coinsOf_42 rfl ?_
          refine v_sub (L' := [(0, .ref v0), (1, .int v1), (2, .int x38), (3, .int x39)]) [2, 3, 1, 0] rfl ?_
          exact ih x38 x39
        · refine v_aload_n (i := 0) hc 0 rfl dX4_coinsOf_27 rfl ?_
          refine v_getV hc kX4 3 (by decide) w_312 rfl dX4_coinsOf_28 (gR rfl fun x28 => ?_)
          refine v_iload_n (i := 3) hc 3 rfl dX4_coinsOf_31 rfl ?_
          refine v_iald hc dX4_coinsOf_32 fun x32 => ?_
          refine v_goto hc 37 dX4_coinsOf_33 rfl ?_
          refine v_iadd hc dX4_coinsOf_37 ?_
          refine v_nmI fun x38 => ?_
          refine v_istore_n (i := 2) (L' := [(2, .int x38), (0, .ref v0), (1, .int v1), (3, .int v3)]) hc dX4_coinsOf_38 rfl (hn 2 (Nat.le_of_ble_eq_true rfl)) rfl ?_
          refine v_iincN (i := 3) (y := (1 : Int32)) (L' := fun z => [(3, .int z), (2, .int x38), (0, .ref v0), (1, .int v1)]) hc 3 rfl dX4_coinsOf_39 zi_1 (hn 3 (Nat.le_of_ble_eq_true rfl)) (fun _ => rfl) fun x39 => ?_
          refine v_goto hc 4 dX4_coinsOf_42 rfl ?_
          refine v_sub (L' := [(0, .ref v0), (1, .int v1), (2, .int x38), (3, .int x39)]) [2, 3, 1, 0] rfl ?_
          exact ih x38 x39
def f4_coinsOf (h : AH) (this : Nat) (p0 : Int32) : Option (Int32) := (hObj 4 h this).bind fun _ => f4_coinsOf_4 h this p0 FU (0 : Int32) (0 : Int32)
theorem ob4_coinsOf {h : AH} {this : Nat} {p0 : Int32} {x : Int32} (e : f4_coinsOf h this p0 = some x) : ∃ fs, hObj 4 h this = some fs := by
  unfold f4_coinsOf at e
  obtain ⟨fs, h1, -⟩ := bd e
  exact ⟨fs, h1⟩
set_option maxRecDepth 100000 in
theorem ct4_coinsOf (l : Launch) (D : va_G) (tys : Tys) (base : Nat) (h : AH) (this : Nat) (p0 : Int32) : Ct l D tys base yX4_coinsOf cX4_coinsOf 4 (some .int) 1 21 0 0 [.ref this, .int p0] h (rI h) (f4_coinsOf h this p0) := by
  refine Ct.intro (own := RX4) (L := [(0, .ref this), (1, .int p0)]) rfl (by decide) rfl (Nat.le_of_ble_eq_true rfl) fun κ hc hr hq hi hL => ?_
  have hn : ∀ i, i < 4 → i < κ.2.2.2.2.1 := fun i q => hL ▸ q
  unfold f4_coinsOf
  refine v_obj ?_
  refine v_iconst (x := (0 : Int32)) hc dX4_coinsOf_0 zi_0 ?_
  refine v_istore_n (i := 2) (L' := [(2, .int (0 : Int32)), (0, .ref this), (1, .int p0)]) hc dX4_coinsOf_1 rfl (hn 2 (Nat.le_of_ble_eq_true rfl)) rfl ?_
  refine v_iconst (x := (0 : Int32)) hc dX4_coinsOf_2 zi_0 ?_
  refine v_istore_n (i := 3) (L' := [(3, .int (0 : Int32)), (2, .int (0 : Int32)), (0, .ref this), (1, .int p0)]) hc dX4_coinsOf_3 rfl (hn 3 (Nat.le_of_ble_eq_true rfl)) rfl ?_
  refine v_sub (L' := [(0, .ref this), (1, .int p0), (2, .int (0 : Int32)), (3, .int (0 : Int32))]) [2, 3, 1, 0] rfl ?_
  exact vl4_coinsOf_4 hc hr hq hL h this p0 FU (0 : Int32) (0 : Int32)
theorem s4_coinsOf : YV yX4_coinsOf RX4 cX4_coinsOf 4 (some .int) 1 := ⟨w_1070, w_1069, w_45, w_115, rfl, by decide +kernel, by decide +kernel, by decide +kernel⟩
def f4_surestFor_67 (k11 : Int32 → Int64 → Int32 → Option (Int32)) (h : AH) (v0 : Nat) (v1 : Int32) (v2 : Int32) (v3 : Int64) (v5 : Int32) (v6 : Int32) (v7 : Int64) (s0 : Bool) : Option (Int32) := (if v1 < v6 then (some (v5 + (1 : Int32))).bind fun x86 => k11 v2 v3 x86 else (if s0 = true then (some (v5 + (1 : Int32))).bind fun x86 => k11 v5 v7 x86 else (some (v5 + (1 : Int32))).bind fun x86 => k11 v2 v3 x86))
set_option maxRecDepth 100000 in
theorem vl4_surestFor_67 {κ : Kx} (hc : CX κ RX4 cX4_surestFor) (hr : RX κ ({ frames := 2, cells := 0, slots := 0, locals := 45 } : Room)) (hq : QX κ (some .int) 0 0) (hL : 10 = κ.2.2.2.2.1) (k11 : Int32 → Int64 → Int32 → Option (Int32)) (h : AH) (v0 : Nat) (v1 : Int32) (hk11 : ∀ (v2 : Int32) (v3 : Int64) (v5 : Int32), V κ (rI h) 0 0 11 [(0, .ref v0), (1, .int v1), (2, .int v2), (3, .long v3), (5, .int v5)] [] h (k11 v2 v3 v5)) (v2 : Int32) (v3 : Int64) (v5 : Int32) (v6 : Int32) (v7 : Int64) (s0 : Bool) : V κ (rI h) 0 0 67 [(0, .ref v0), (1, .int v1), (2, .int v2), (3, .long v3), (5, .int v5), (6, .int v6), (7, .long v7)] [.int (bI s0)] h (f4_surestFor_67 k11 h v0 v1 v2 v3 v5 v6 v7 s0) := by
  have hn : ∀ i, i < 10 → i < κ.2.2.2.2.1 := fun i q => hL ▸ q
  unfold f4_surestFor_67
  refine v_istore (i := 9) (L' := [(9, .int (bI s0)), (0, .ref v0), (1, .int v1), (2, .int v2), (3, .long v3), (5, .int v5), (6, .int v6), (7, .long v7)]) hc dX4_surestFor_67 (hn 9 (Nat.le_of_ble_eq_true rfl)) rfl ?_
  refine v_iload (i := 6) hc 6 rfl dX4_surestFor_69 ?_
  refine v_iload_n (i := 1) hc 2 rfl dX4_surestFor_71 rfl ?_
  refine v_icmp_gt hc 86 dX4_surestFor_72 rfl ?_ ?_
  · refine v_iincN (i := 5) (y := (1 : Int32)) (L' := fun z => [(5, .int z), (9, .int (bI s0)), (0, .ref v0), (1, .int v1), (2, .int v2), (3, .long v3), (6, .int v6), (7, .long v7)]) hc 5 rfl dX4_surestFor_86 zi_1 (hn 5 (Nat.le_of_ble_eq_true rfl)) (fun _ => rfl) fun x86 => ?_
    refine v_goto hc 11 dX4_surestFor_89 rfl ?_
    refine v_sub (L' := [(0, .ref v0), (1, .int v1), (2, .int v2), (3, .long v3), (5, .int x86)]) [2, 3, 4, 5, 0] rfl ?_
    exact hk11 v2 v3 x86
  · refine v_iload (i := 9) hc 0 rfl dX4_surestFor_75 ?_
    refine v_ifb_eq hc 86 dX4_surestFor_77 rfl ?_ ?_
    · refine v_iincN (i := 5) (y := (1 : Int32)) (L' := fun z => [(5, .int z), (9, .int (bI s0)), (0, .ref v0), (1, .int v1), (2, .int v2), (3, .long v3), (6, .int v6), (7, .long v7)]) hc 5 rfl dX4_surestFor_86 zi_1 (hn 5 (Nat.le_of_ble_eq_true rfl)) (fun _ => rfl) fun x86 => ?_
      refine v_goto hc 11 dX4_surestFor_89 rfl ?_
      refine v_sub (L' := [(0, .ref v0), (1, .int v1), (2, .int v2), (3, .long v3), (5, .int x86)]) [2, 3, 4, 5, 0] rfl ?_
      exact hk11 v2 v3 x86
    · refine v_iload (i := 5) hc 5 rfl dX4_surestFor_80 ?_
      refine v_istore_n (i := 2) (L' := [(2, .int v5), (9, .int (bI s0)), (0, .ref v0), (1, .int v1), (3, .long v3), (5, .int v5), (6, .int v6), (7, .long v7)]) hc dX4_surestFor_82 rfl (hn 2 (Nat.le_of_ble_eq_true rfl)) rfl ?_
      refine v_lload (i := 7) hc 7 rfl dX4_surestFor_83 ?_
      refine v_lstore_n (i := 3) (L' := [(3, .long v7), (2, .int v5), (9, .int (bI s0)), (0, .ref v0), (1, .int v1), (5, .int v5), (6, .int v6), (7, .long v7)]) hc dX4_surestFor_85 rfl (hn 4 (Nat.le_of_ble_eq_true rfl)) rfl ?_
      refine v_iincN (i := 5) (y := (1 : Int32)) (L' := fun z => [(5, .int z), (3, .long v7), (2, .int v5), (9, .int (bI s0)), (0, .ref v0), (1, .int v1), (6, .int v6), (7, .long v7)]) hc 5 rfl dX4_surestFor_86 zi_1 (hn 5 (Nat.le_of_ble_eq_true rfl)) (fun _ => rfl) fun x86 => ?_
      refine v_goto hc 11 dX4_surestFor_89 rfl ?_
      refine v_sub (L' := [(0, .ref v0), (1, .int v1), (2, .int v5), (3, .long v7), (5, .int x86)]) [4, 5, 2, 1, 0] rfl ?_
      exact hk11 v5 v7 x86
def f4_surestFor_11 (h : AH) (v0 : Nat) (v1 : Int32) : Nat → Int32 → Int64 → Int32 → Option (Int32)
  | 0, _, _, _ => none
  | n + 1, v2, v3, v5 => (fI 4 4 h v0).bind fun x15 => (if ((1 : Int32) <<< (x15 &&& 31)) ≤ v5 then some v2 else (f4_coinsOf h v0 v5).bind fun x25 => (f4_chanceOfAll h v0 v5).bind fun x33 => (if x33 < v3 then f4_surestFor_67 (fun v2 v3 v5 => f4_surestFor_11 h v0 v1 n v2 v3 v5) h v0 v1 v2 v3 v5 x25 x33 true else (if x33 = v3 then (f4_coinsOf h v0 v2).bind fun x56 => (if x56 ≤ x25 then f4_surestFor_67 (fun v2 v3 v5 => f4_surestFor_11 h v0 v1 n v2 v3 v5) h v0 v1 v2 v3 v5 x25 x33 false else f4_surestFor_67 (fun v2 v3 v5 => f4_surestFor_11 h v0 v1 n v2 v3 v5) h v0 v1 v2 v3 v5 x25 x33 true) else f4_surestFor_67 (fun v2 v3 v5 => f4_surestFor_11 h v0 v1 n v2 v3 v5) h v0 v1 v2 v3 v5 x25 x33 false)))
set_option maxRecDepth 100000 in
theorem vl4_surestFor_11 {κ : Kx} (hc : CX κ RX4 cX4_surestFor) (hr : RX κ ({ frames := 2, cells := 0, slots := 0, locals := 45 } : Room)) (hq : QX κ (some .int) 0 0) (hL : 10 = κ.2.2.2.2.1)  (h : AH) (v0 : Nat) (v1 : Int32) : ∀ n (v2 : Int32) (v3 : Int64) (v5 : Int32), V κ (rI h) 0 0 11 [(0, .ref v0), (1, .int v1), (2, .int v2), (3, .long v3), (5, .int v5)] [] h (f4_surestFor_11 h v0 v1 n v2 v3 v5) := by
  have hn : ∀ i, i < 10 → i < κ.2.2.2.2.1 := fun i q => hL ▸ q
  intro n
  induction n with
  | zero => intros; exact v_none
  | succ n ih =>
    intro v2 v3 v5
    rw [f4_surestFor_11.eq_2]
    refine v_iload (i := 5) hc 4 rfl dX4_surestFor_11 ?_
    refine v_iconst (x := (1 : Int32)) hc dX4_surestFor_13 zi_1 ?_
    refine v_aload_n (i := 0) hc 0 rfl dX4_surestFor_14 rfl ?_
    refine v_getV hc kX4 4 (by decide) w_313 rfl dX4_surestFor_15 (gI rfl fun x15 => ?_)
    refine v_ishl hc dX4_surestFor_18 ?_
    refine v_icmp_ge hc 92 dX4_surestFor_19 rfl ?_ ?_
    · refine v_iload_n (i := 2) hc 2 rfl dX4_surestFor_92 rfl ?_
      exact v_iret hc hq rfl rfl (Nat.le_of_ble_eq_true rfl) (Nat.le_of_ble_eq_true rfl) rfl dX4_surestFor_93
    · refine v_aload_n (i := 0) hc 0 rfl dX4_surestFor_22 rfl ?_
      refine v_iload (i := 5) hc 4 rfl dX4_surestFor_23 ?_
      refine v_cI hc (m_V' (As := [.int v5]) (b := v0) (rest := []) 1 hc hr (fun l D tys base => ct4_coinsOf l D tys base h v0 v5) (fun x hx => ob4_coinsOf hx) rfl s4_coinsOf w_1067 rfl ⟨Nat.le_of_ble_eq_true rfl, Nat.le_of_ble_eq_true rfl⟩ ⟨Nat.le_of_ble_eq_true rfl, Nat.le_of_ble_eq_true rfl⟩ (Nat.le_of_ble_eq_true rfl) dX4_surestFor_25) fun x25 => ?_
      refine v_istore (i := 6) (L' := [(6, .int x25), (0, .ref v0), (1, .int v1), (2, .int v2), (3, .long v3), (5, .int v5)]) hc dX4_surestFor_28 (hn 6 (Nat.le_of_ble_eq_true rfl)) rfl ?_
      refine v_aload_n (i := 0) hc 1 rfl dX4_surestFor_30 rfl ?_
      refine v_iload (i := 5) hc 5 rfl dX4_surestFor_31 ?_
      refine v_cL hc (m_V' (As := [.int v5]) (b := v0) (rest := []) 1 hc hr (fun l D tys base => ct4_chanceOfAll l D tys base h v0 v5) (fun x hx => ob4_chanceOfAll hx) rfl s4_chanceOfAll w_1063 rfl ⟨Nat.le_of_ble_eq_true rfl, Nat.le_of_ble_eq_true rfl⟩ ⟨Nat.le_of_ble_eq_true rfl, Nat.le_of_ble_eq_true rfl⟩ (Nat.le_of_ble_eq_true rfl) dX4_surestFor_33) fun x33 => ?_
      refine v_lstore (i := 7) (L' := [(7, .long x33), (6, .int x25), (0, .ref v0), (1, .int v1), (2, .int v2), (3, .long v3), (5, .int v5)]) hc dX4_surestFor_36 (hn 8 (Nat.le_of_ble_eq_true rfl)) rfl ?_
      refine v_lload (i := 7) hc 0 rfl dX4_surestFor_38 ?_
      refine v_lload_n (i := 3) hc 5 rfl dX4_surestFor_40 rfl ?_
      refine v_lcmp_lt hc 62 dX4_surestFor_41 dX4_surestFor_42 rfl ?_ ?_
      · refine v_iconst (x := (1 : Int32)) hc dX4_surestFor_62 zi_1 ?_
        refine v_goto hc 67 dX4_surestFor_63 rfl ?_
        refine v_sub (L' := [(0, .ref v0), (1, .int v1), (2, .int v2), (3, .long v3), (5, .int v5), (6, .int x25), (7, .long x33)]) [2, 3, 4, 5, 6, 1, 0] rfl ?_
        exact vl4_surestFor_67 hc hr hq hL (fun v2 v3 v5 => f4_surestFor_11 h v0 v1 n v2 v3 v5) h v0 v1 ih v2 v3 v5 x25 x33 true
      · refine v_lload (i := 7) hc 0 rfl dX4_surestFor_45 ?_
        refine v_lload_n (i := 3) hc 5 rfl dX4_surestFor_47 rfl ?_
        refine v_lcmp_ne hc 66 dX4_surestFor_48 dX4_surestFor_49 rfl ?_ ?_
        · refine v_iconst (x := (0 : Int32)) hc dX4_surestFor_66 zi_0 ?_
          refine v_sub (L' := [(0, .ref v0), (1, .int v1), (2, .int v2), (3, .long v3), (5, .int v5), (6, .int x25), (7, .long x33)]) [2, 3, 4, 5, 6, 1, 0] rfl ?_
          exact vl4_surestFor_67 hc hr hq hL (fun v2 v3 v5 => f4_surestFor_11 h v0 v1 n v2 v3 v5) h v0 v1 ih v2 v3 v5 x25 x33 false
        · refine v_iload (i := 6) hc 1 rfl dX4_surestFor_52 ?_
          refine v_aload_n (i := 0) hc 2 rfl dX4_surestFor_54 rfl ?_
          refine v_iload_n (i := 2) hc 4 rfl dX4_surestFor_55 rfl ?_
          refine v_cI hc (m_V' (As := [.int v2]) (b := v0) (rest := [.int x25]) 1 hc hr (fun l D tys base => ct4_coinsOf l D tys base h v0 v2) (fun x hx => ob4_coinsOf hx) rfl s4_coinsOf w_1067 rfl ⟨Nat.le_of_ble_eq_true rfl, Nat.le_of_ble_eq_true rfl⟩ ⟨Nat.le_of_ble_eq_true rfl, Nat.le_of_ble_eq_true rfl⟩ (Nat.le_of_ble_eq_true rfl) dX4_surestFor_56) fun x56 => ?_
          refine v_icmp_ge hc 66 dX4_surestFor_59 rfl ?_ ?_
          · refine v_iconst (x := (0 : Int32)) hc dX4_surestFor_66 zi_0 ?_
            refine v_sub (L' := [(0, .ref v0), (1, .int v1), (2, .int v2), (3, .long v3), (5, .int v5), (6, .int x25), (7, .long x33)]) [2, 3, 4, 5, 6, 1, 0] rfl ?_
            exact vl4_surestFor_67 hc hr hq hL (fun v2 v3 v5 => f4_surestFor_11 h v0 v1 n v2 v3 v5) h v0 v1 ih v2 v3 v5 x25 x33 false
          · refine v_iconst (x := (1 : Int32)) hc dX4_surestFor_62 zi_1 ?_
            refine v_goto hc 67 dX4_surestFor_63 rfl ?_
            refine v_sub (L' := [(0, .ref v0), (1, .int v1), (2, .int v2), (3, .long v3), (5, .int v5), (6, .int x25), (7, .long x33)]) [2, 3, 4, 5, 6, 1, 0] rfl ?_
            exact vl4_surestFor_67 hc hr hq hL (fun v2 v3 v5 => f4_surestFor_11 h v0 v1 n v2 v3 v5) h v0 v1 ih v2 v3 v5 x25 x33 true
def f4_surestFor (h : AH) (this : Nat) (p0 : Int32) : Option (Int32) := (hObj 4 h this).bind fun _ => (f4_chanceOfAll h this (0 : Int32)).bind fun x4 => f4_surestFor_11 h this p0 FU (0 : Int32) x4 (1 : Int32)
theorem ob4_surestFor {h : AH} {this : Nat} {p0 : Int32} {x : Int32} (e : f4_surestFor h this p0 = some x) : ∃ fs, hObj 4 h this = some fs := by
  unfold f4_surestFor at e
  obtain ⟨fs, h1, -⟩ := bd e
  exact ⟨fs, h1⟩
set_option maxRecDepth 100000 in
theorem ct4_surestFor (l : Launch) (D : va_G) (tys : Tys) (base : Nat) (h : AH) (this : Nat) (p0 : Int32) : Ct l D tys base yX4_surestFor cX4_surestFor 10 (some .int) 2 45 0 0 [.ref this, .int p0] h (rI h) (f4_surestFor h this p0) := by
  refine Ct.intro (own := RX4) (L := [(0, .ref this), (1, .int p0)]) rfl (by decide) rfl (Nat.le_of_ble_eq_true rfl) fun κ hc hr hq hi hL => ?_
  have hn : ∀ i, i < 10 → i < κ.2.2.2.2.1 := fun i q => hL ▸ q
  unfold f4_surestFor
  refine v_obj ?_
  refine v_iconst (x := (0 : Int32)) hc dX4_surestFor_0 zi_0 ?_
  refine v_istore_n (i := 2) (L' := [(2, .int (0 : Int32)), (0, .ref this), (1, .int p0)]) hc dX4_surestFor_1 rfl (hn 2 (Nat.le_of_ble_eq_true rfl)) rfl ?_
  refine v_aload_n (i := 0) hc 1 rfl dX4_surestFor_2 rfl ?_
  refine v_iconst (x := (0 : Int32)) hc dX4_surestFor_3 zi_0 ?_
  refine v_cL hc (m_V' (As := [.int (0 : Int32)]) (b := this) (rest := []) 1 hc hr (fun l D tys base => ct4_chanceOfAll l D tys base h this (0 : Int32)) (fun x hx => ob4_chanceOfAll hx) rfl s4_chanceOfAll w_1063 rfl ⟨Nat.le_of_ble_eq_true rfl, Nat.le_of_ble_eq_true rfl⟩ ⟨Nat.le_of_ble_eq_true rfl, Nat.le_of_ble_eq_true rfl⟩ (Nat.le_of_ble_eq_true rfl) dX4_surestFor_4) fun x4 => ?_
  refine v_lstore_n (i := 3) (L' := [(3, .long x4), (2, .int (0 : Int32)), (0, .ref this), (1, .int p0)]) hc dX4_surestFor_7 rfl (hn 4 (Nat.le_of_ble_eq_true rfl)) rfl ?_
  refine v_iconst (x := (1 : Int32)) hc dX4_surestFor_8 zi_1 ?_
  refine v_istore (i := 5) (L' := [(5, .int (1 : Int32)), (3, .long x4), (2, .int (0 : Int32)), (0, .ref this), (1, .int p0)]) hc dX4_surestFor_9 (hn 5 (Nat.le_of_ble_eq_true rfl)) rfl ?_
  refine v_sub (L' := [(0, .ref this), (1, .int p0), (2, .int (0 : Int32)), (3, .long x4), (5, .int (1 : Int32))]) [3, 4, 2, 1, 0] rfl ?_
  exact vl4_surestFor_11 hc hr hq hL h this p0 FU (0 : Int32) x4 (1 : Int32)
theorem s4_surestFor : YV yX4_surestFor RX4 cX4_surestFor 10 (some .int) 1 := ⟨w_1062, w_1060, w_1061, w_115, rfl, by decide +kernel, by decide +kernel, by decide +kernel⟩
