def f5_init (h : AH) (this : Nat) (p0 : Int32) (p1 : Int32) : Option (AH) := (hObj 5 h this).bind fun _ => (fS 5 3 h this (.int (0 : Int32))).bind fun h6 => (some (if p0 < (0 : Int32) then (0 : Int32) else p0)).bind fun z12 => (fS 5 2 h6 this (.int z12)).bind fun h15 => (some (if p1 < (0 : Int32) then (0 : Int32) else p1)).bind fun z21 => (fS 5 1 h15 this (.int z21)).bind fun h24 => (fI 5 2 h24 this).bind fun x29 => (fI 5 1 h24 this).bind fun x33 => (some (if (x29 * x33) < (0 : Int32) then (0 : Int32) else (x29 * x33))).bind fun z38 => (nB 0 900 h24 z38).bind fun y41 => (fS 5 0 y41.2 this (.ref y41.1)).bind fun h43 => some h43
theorem ob5_init {h : AH} {this : Nat} {p0 : Int32} {p1 : Int32} {x : AH} (e : f5_init h this p0 p1 = some x) : ∃ fs, hObj 5 h this = some fs := by
  unfold f5_init at e
  obtain ⟨fs, h1, -⟩ := bd e
  exact ⟨fs, h1⟩
set_option maxRecDepth 100000 in
theorem ct5_init (l : Launch) (D : va_G) (tys : Tys) (base : Nat) (h : AH) (this : Nat) (p0 : Int32) (p1 : Int32) : Ct l D tys base yX5_init cX5_init 3 none 1 40 1 900 [.ref this, .int p0, .int p1] h (wV) (f5_init h this p0 p1) := by
  refine Ct.intro (own := RX5) (L := [(0, .ref this), (1, .int p0), (2, .int p1)]) rfl (by decide) rfl (Nat.le_of_ble_eq_true rfl) fun κ hc hr hq hi hL => ?_
  have hin : IN κ := hi rfl
  have hn : ∀ i, i < 3 → i < κ.2.2.2.2.1 := fun i q => hL ▸ q
  unfold f5_init
  refine v_obj ?_
  refine v_aload_n (i := 0) hc 0 rfl dX5_init_0 rfl ?_
  refine v_objI hc hr (Nat.le_of_ble_eq_true rfl) (Nat.le_of_ble_eq_true rfl) (Nat.le_of_ble_eq_true rfl) (Nat.le_of_ble_eq_true rfl) w_144 w_131 w_132 dX5_init_1 ?_
  refine v_aload_n (i := 0) hc 0 rfl dX5_init_4 rfl ?_
  refine v_iconst (x := (0 : Int32)) hc dX5_init_5 zi_0 ?_
  refine v_put hc kX5 3 (by decide) w_151 rfl rfl dX5_init_6 ⟨rfl, rfl⟩ fun h6 => ?_
  refine v_aload_n (i := 0) hc 0 rfl dX5_init_9 rfl ?_
  refine v_iload_n (i := 1) hc 1 rfl dX5_init_10 rfl ?_
  refine v_iconst (x := (0 : Int32)) hc dX5_init_11 zi_0 ?_
  refine v_mmax hc hr w_145 w_146 w_111 w_147 (Nat.le_of_ble_eq_true rfl) (Nat.le_of_ble_eq_true rfl) (Nat.le_of_ble_eq_true rfl) (Nat.le_of_ble_eq_true rfl) dX5_init_12 (v_nmI fun z12 => ?_)
  refine v_putF hc hin kX5 2 (by decide) w_150 rfl rfl rfl dX5_init_15 ⟨rfl, rfl⟩ fun h15 => ?_
  refine v_aload_n (i := 0) hc 0 rfl dX5_init_18 rfl ?_
  refine v_iload_n (i := 2) hc 2 rfl dX5_init_19 rfl ?_
  refine v_iconst (x := (0 : Int32)) hc dX5_init_20 zi_0 ?_
  refine v_mmax hc hr w_145 w_146 w_111 w_147 (Nat.le_of_ble_eq_true rfl) (Nat.le_of_ble_eq_true rfl) (Nat.le_of_ble_eq_true rfl) (Nat.le_of_ble_eq_true rfl) dX5_init_21 (v_nmI fun z21 => ?_)
  refine v_putF hc hin kX5 1 (by decide) w_149 rfl rfl rfl dX5_init_24 ⟨rfl, rfl⟩ fun h24 => ?_
  refine v_aload_n (i := 0) hc 0 rfl dX5_init_27 rfl ?_
  refine v_aload_n (i := 0) hc 0 rfl dX5_init_28 rfl ?_
  refine v_getV hc kX5 2 (by decide) w_150 rfl dX5_init_29 (gI rfl fun x29 => ?_)
  refine v_aload_n (i := 0) hc 0 rfl dX5_init_32 rfl ?_
  refine v_getV hc kX5 1 (by decide) w_149 rfl dX5_init_33 (gI rfl fun x33 => ?_)
  refine v_imul hc dX5_init_36 ?_
  refine v_iconst (x := (0 : Int32)) hc dX5_init_37 zi_0 ?_
  refine v_mmax hc hr w_145 w_146 w_111 w_147 (Nat.le_of_ble_eq_true rfl) (Nat.le_of_ble_eq_true rfl) (Nat.le_of_ble_eq_true rfl) (Nat.le_of_ble_eq_true rfl) dX5_init_38 (v_nmI fun z38 => ?_)
  refine v_newa (at' := .int) 0 900 rfl (by decide) hc hr w_161 (Nat.le_of_ble_eq_true rfl) (Nat.le_of_ble_eq_true rfl) (Nat.le_of_ble_eq_true rfl) dX5_init_41 fun y41 => ?_
  refine v_putF hc hin kX5 0 (by decide) w_148 rfl rfl rfl dX5_init_43 ⟨rfl, rfl⟩ fun h43 => ?_
  exact v_vret hc hq (Nat.le_of_ble_eq_true rfl) (Nat.le_of_ble_eq_true rfl) rfl dX5_init_46
theorem s5_init : YI yX5_init cX5_init 3 2 := ⟨w_143, w_142, w_110, rfl, by decide +kernel, by decide +kernel, by decide +kernel⟩
def f2_init (h : AH) (this : Nat) (p0 : Int32) : Option (AH) := (hObj 2 h this).bind fun _ => (fS 2 2 h this (.int (0 : Int32))).bind fun h6 => (some (if p0 < (0 : Int32) then (0 : Int32) else p0)).bind fun z12 => (nB 0 400 h6 z12).bind fun y15 => (fS 2 0 y15.2 this (.ref y15.1)).bind fun h17 => (some (if p0 < (0 : Int32) then (0 : Int32) else p0)).bind fun z23 => (nB 0 400 h17 z23).bind fun y26 => (fS 2 1 y26.2 this (.ref y26.1)).bind fun h28 => some h28
theorem ob2_init {h : AH} {this : Nat} {p0 : Int32} {x : AH} (e : f2_init h this p0 = some x) : ∃ fs, hObj 2 h this = some fs := by
  unfold f2_init at e
  obtain ⟨fs, h1, -⟩ := bd e
  exact ⟨fs, h1⟩
set_option maxRecDepth 100000 in
theorem ct2_init (l : Launch) (D : va_G) (tys : Tys) (base : Nat) (h : AH) (this : Nat) (p0 : Int32) : Ct l D tys base yX2_init cX2_init 2 none 1 40 2 800 [.ref this, .int p0] h (wV) (f2_init h this p0) := by
  refine Ct.intro (own := RX2) (L := [(0, .ref this), (1, .int p0)]) rfl (by decide) rfl (Nat.le_of_ble_eq_true rfl) fun κ hc hr hq hi hL => ?_
  have hin : IN κ := hi rfl
  have hn : ∀ i, i < 2 → i < κ.2.2.2.2.1 := fun i q => hL ▸ q
  unfold f2_init
  refine v_obj ?_
  refine v_aload_n (i := 0) hc 0 rfl dX2_init_0 rfl ?_
  refine v_objI hc hr (Nat.le_of_ble_eq_true rfl) (Nat.le_of_ble_eq_true rfl) (Nat.le_of_ble_eq_true rfl) (Nat.le_of_ble_eq_true rfl) w_167 w_131 w_132 dX2_init_1 ?_
  refine v_aload_n (i := 0) hc 0 rfl dX2_init_4 rfl ?_
  refine v_iconst (x := (0 : Int32)) hc dX2_init_5 zi_0 ?_
  refine v_put hc kX2 2 (by decide) w_171 rfl rfl dX2_init_6 ⟨rfl, rfl⟩ fun h6 => ?_
  refine v_aload_n (i := 0) hc 0 rfl dX2_init_9 rfl ?_
  refine v_iload_n (i := 1) hc 1 rfl dX2_init_10 rfl ?_
  refine v_iconst (x := (0 : Int32)) hc dX2_init_11 zi_0 ?_
  refine v_mmax hc hr w_168 w_146 w_111 w_147 (Nat.le_of_ble_eq_true rfl) (Nat.le_of_ble_eq_true rfl) (Nat.le_of_ble_eq_true rfl) (Nat.le_of_ble_eq_true rfl) dX2_init_12 (v_nmI fun z12 => ?_)
  refine v_newa (at' := .int) 0 400 rfl (by decide) hc hr w_161 (Nat.le_of_ble_eq_true rfl) (Nat.le_of_ble_eq_true rfl) (Nat.le_of_ble_eq_true rfl) dX2_init_15 fun y15 => ?_
  refine v_putF hc hin kX2 0 (by decide) w_169 rfl rfl rfl dX2_init_17 ⟨rfl, rfl⟩ fun h17 => ?_
  refine v_aload_n (i := 0) hc 0 rfl dX2_init_20 rfl ?_
  refine v_iload_n (i := 1) hc 1 rfl dX2_init_21 rfl ?_
  refine v_iconst (x := (0 : Int32)) hc dX2_init_22 zi_0 ?_
  refine v_mmax hc hr w_168 w_146 w_111 w_147 (Nat.le_of_ble_eq_true rfl) (Nat.le_of_ble_eq_true rfl) (Nat.le_of_ble_eq_true rfl) (Nat.le_of_ble_eq_true rfl) dX2_init_23 (v_nmI fun z23 => ?_)
  refine v_newa (at' := .int) 0 400 rfl (by decide) hc hr w_161 (Nat.le_of_ble_eq_true rfl) (Nat.le_of_ble_eq_true rfl) (Nat.le_of_ble_eq_true rfl) dX2_init_26 fun y26 => ?_
  refine v_putF hc hin kX2 1 (by decide) w_170 rfl rfl rfl dX2_init_28 ⟨rfl, rfl⟩ fun h28 => ?_
  exact v_vret hc hq (Nat.le_of_ble_eq_true rfl) (Nat.le_of_ble_eq_true rfl) rfl dX2_init_31
theorem s2_init : YI yX2_init cX2_init 2 1 := ⟨w_166, w_165, w_112, rfl, by decide +kernel, by decide +kernel, by decide +kernel⟩
def f8_isFrom (h : AH) (p0 : Int32) (p1 : Int32) (p2 : Int32) : Option (Bool) := (if p0 < p1 then some false else (if p2 < p0 then some false else some true))
set_option maxRecDepth 100000 in
theorem ct8_isFrom (l : Launch) (D : va_G) (tys : Tys) (base : Nat) (h : AH) (p0 : Int32) (p1 : Int32) (p2 : Int32) : Ct l D tys base yX8_isFrom cX8_isFrom 3 (some .boolean) 0 0 0 0 [.int p0, .int p1, .int p2] h (rB h) (f8_isFrom h p0 p1 p2) := by
  refine Ct.intro (own := RX8) (L := [(0, .int p0), (1, .int p1), (2, .int p2)]) rfl (by decide) rfl (Nat.le_of_ble_eq_true rfl) fun κ hc hr hq hi hL => ?_
  have hn : ∀ i, i < 3 → i < κ.2.2.2.2.1 := fun i q => hL ▸ q
  unfold f8_isFrom
  refine v_iload_n (i := 0) hc 0 rfl dX8_isFrom_0 rfl ?_
  refine v_iload_n (i := 1) hc 1 rfl dX8_isFrom_1 rfl ?_
  refine v_icmp_lt hc 14 dX8_isFrom_2 rfl ?_ ?_
  · refine v_iconst (x := (0 : Int32)) hc dX8_isFrom_14 zi_0 ?_
    exact v_iret (v := bI false) hc hq rfl (nar_b false) (Nat.le_of_ble_eq_true rfl) (Nat.le_of_ble_eq_true rfl) rfl dX8_isFrom_15
  · refine v_iload_n (i := 0) hc 0 rfl dX8_isFrom_5 rfl ?_
    refine v_iload_n (i := 2) hc 2 rfl dX8_isFrom_6 rfl ?_
    refine v_icmp_gt hc 14 dX8_isFrom_7 rfl ?_ ?_
    · refine v_iconst (x := (0 : Int32)) hc dX8_isFrom_14 zi_0 ?_
      exact v_iret (v := bI false) hc hq rfl (nar_b false) (Nat.le_of_ble_eq_true rfl) (Nat.le_of_ble_eq_true rfl) rfl dX8_isFrom_15
    · refine v_iconst (x := (1 : Int32)) hc dX8_isFrom_10 zi_1 ?_
      refine v_goto hc 15 dX8_isFrom_11 rfl ?_
      exact v_iret (v := bI true) hc hq rfl (nar_b true) (Nat.le_of_ble_eq_true rfl) (Nat.le_of_ble_eq_true rfl) rfl dX8_isFrom_15
theorem s8_isFrom : YS yX8_isFrom cX8_isFrom 3 (some .boolean) 3 := ⟨w_415, w_414, w_108, by decide +kernel, by decide +kernel, by decide +kernel⟩
def f5_isFull (h : AH) (this : Nat) : Option (Bool) := (hObj 5 h this).bind fun _ => (fI 5 3 h this).bind fun x1 => (fI 5 2 h this).bind fun x5 => (if x1 < x5 then some false else some true)
theorem ob5_isFull {h : AH} {this : Nat} {x : Bool} (e : f5_isFull h this = some x) : ∃ fs, hObj 5 h this = some fs := by
  unfold f5_isFull at e
  obtain ⟨fs, h1, -⟩ := bd e
  exact ⟨fs, h1⟩
set_option maxRecDepth 100000 in
theorem ct5_isFull (l : Launch) (D : va_G) (tys : Tys) (base : Nat) (h : AH) (this : Nat) : Ct l D tys base yX5_isFull cX5_isFull 1 (some .boolean) 0 0 0 0 [.ref this] h (rB h) (f5_isFull h this) := by
  refine Ct.intro (own := RX5) (L := [(0, .ref this)]) rfl (by decide) rfl (Nat.le_of_ble_eq_true rfl) fun κ hc hr hq hi hL => ?_
  have hn : ∀ i, i < 1 → i < κ.2.2.2.2.1 := fun i q => hL ▸ q
  unfold f5_isFull
  refine v_obj ?_
  refine v_aload_n (i := 0) hc 0 rfl dX5_isFull_0 rfl ?_
  refine v_getV hc kX5 3 (by decide) w_151 rfl dX5_isFull_1 (gI rfl fun x1 => ?_)
  refine v_aload_n (i := 0) hc 0 rfl dX5_isFull_4 rfl ?_
  refine v_getV hc kX5 2 (by decide) w_150 rfl dX5_isFull_5 (gI rfl fun x5 => ?_)
  refine v_icmp_lt hc 15 dX5_isFull_8 rfl ?_ ?_
  · refine v_iconst (x := (0 : Int32)) hc dX5_isFull_15 zi_0 ?_
    exact v_iret (v := bI false) hc hq rfl (nar_b false) (Nat.le_of_ble_eq_true rfl) (Nat.le_of_ble_eq_true rfl) rfl dX5_isFull_16
  · refine v_iconst (x := (1 : Int32)) hc dX5_isFull_11 zi_1 ?_
    refine v_goto hc 16 dX5_isFull_12 rfl ?_
    exact v_iret (v := bI true) hc hq rfl (nar_b true) (Nat.le_of_ble_eq_true rfl) (Nat.le_of_ble_eq_true rfl) rfl dX5_isFull_16
theorem s5_isFull : YV yX5_isFull RX5 cX5_isFull 1 (some .boolean) 0 := ⟨w_427, w_425, w_426, w_110, rfl, by decide +kernel, by decide +kernel, by decide +kernel⟩
def f5_has (h : AH) (this : Nat) (p0 : Int32) : Option (Bool) := (hObj 5 h this).bind fun _ => (if p0 < 0 then some false else (fI 5 3 h this).bind fun x6 => (if x6 ≤ p0 then some false else some true))
theorem ob5_has {h : AH} {this : Nat} {p0 : Int32} {x : Bool} (e : f5_has h this p0 = some x) : ∃ fs, hObj 5 h this = some fs := by
  unfold f5_has at e
  obtain ⟨fs, h1, -⟩ := bd e
  exact ⟨fs, h1⟩
set_option maxRecDepth 100000 in
theorem ct5_has (l : Launch) (D : va_G) (tys : Tys) (base : Nat) (h : AH) (this : Nat) (p0 : Int32) : Ct l D tys base yX5_has cX5_has 2 (some .boolean) 0 0 0 0 [.ref this, .int p0] h (rB h) (f5_has h this p0) := by
  refine Ct.intro (own := RX5) (L := [(0, .ref this), (1, .int p0)]) rfl (by decide) rfl (Nat.le_of_ble_eq_true rfl) fun κ hc hr hq hi hL => ?_
  have hn : ∀ i, i < 2 → i < κ.2.2.2.2.1 := fun i q => hL ▸ q
  unfold f5_has
  refine v_obj ?_
  refine v_iload_n (i := 1) hc 1 rfl dX5_has_0 rfl ?_
  refine v_if_lt hc 16 dX5_has_1 rfl ?_ ?_
  · refine v_iconst (x := (0 : Int32)) hc dX5_has_16 zi_0 ?_
    exact v_iret (v := bI false) hc hq rfl (nar_b false) (Nat.le_of_ble_eq_true rfl) (Nat.le_of_ble_eq_true rfl) rfl dX5_has_17
  · refine v_iload_n (i := 1) hc 1 rfl dX5_has_4 rfl ?_
    refine v_aload_n (i := 0) hc 0 rfl dX5_has_5 rfl ?_
    refine v_getV hc kX5 3 (by decide) w_151 rfl dX5_has_6 (gI rfl fun x6 => ?_)
    refine v_icmp_ge hc 16 dX5_has_9 rfl ?_ ?_
    · refine v_iconst (x := (0 : Int32)) hc dX5_has_16 zi_0 ?_
      exact v_iret (v := bI false) hc hq rfl (nar_b false) (Nat.le_of_ble_eq_true rfl) (Nat.le_of_ble_eq_true rfl) rfl dX5_has_17
    · refine v_iconst (x := (1 : Int32)) hc dX5_has_12 zi_1 ?_
      refine v_goto hc 17 dX5_has_13 rfl ?_
      exact v_iret (v := bI true) hc hq rfl (nar_b true) (Nat.le_of_ble_eq_true rfl) (Nat.le_of_ble_eq_true rfl) rfl dX5_has_17
theorem s5_has : YV yX5_has RX5 cX5_has 2 (some .boolean) 1 := ⟨w_439, w_437, w_438, w_110, rfl, by decide +kernel, by decide +kernel, by decide +kernel⟩
def f5_cellOf (h : AH) (this : Nat) (p0 : Int32) (p1 : Int32) : Option (Int32) := (hObj 5 h this).bind fun _ => (f5_has h this p0).bind fun x2 => (if x2 = true then (if p1 < 0 then some (-1 : Int32) else (fI 5 1 h this).bind fun x14 => (if x14 ≤ p1 then some (-1 : Int32) else (fI 5 1 h this).bind fun x22 => some ((p0 * x22) + p1))) else some (-1 : Int32))
theorem ob5_cellOf {h : AH} {this : Nat} {p0 : Int32} {p1 : Int32} {x : Int32} (e : f5_cellOf h this p0 p1 = some x) : ∃ fs, hObj 5 h this = some fs := by
  unfold f5_cellOf at e
  obtain ⟨fs, h1, -⟩ := bd e
  exact ⟨fs, h1⟩
set_option maxRecDepth 100000 in
theorem ct5_cellOf (l : Launch) (D : va_G) (tys : Tys) (base : Nat) (h : AH) (this : Nat) (p0 : Int32) (p1 : Int32) : Ct l D tys base yX5_cellOf cX5_cellOf 3 (some .int) 1 21 0 0 [.ref this, .int p0, .int p1] h (rI h) (f5_cellOf h this p0 p1) := by
  refine Ct.intro (own := RX5) (L := [(0, .ref this), (1, .int p0), (2, .int p1)]) rfl (by decide) rfl (Nat.le_of_ble_eq_true rfl) fun κ hc hr hq hi hL => ?_
  have hn : ∀ i, i < 3 → i < κ.2.2.2.2.1 := fun i q => hL ▸ q
  unfold f5_cellOf
  refine v_obj ?_
  refine v_aload_n (i := 0) hc 0 rfl dX5_cellOf_0 rfl ?_
  refine v_iload_n (i := 1) hc 1 rfl dX5_cellOf_1 rfl ?_
  refine v_cB hc (m_V' (As := [.int p0]) (b := this) (rest := []) 1 hc hr (fun l D tys base => ct5_has l D tys base h this p0) (fun x hx => ob5_has hx) rfl s5_has w_436 rfl ⟨Nat.le_of_ble_eq_true rfl, Nat.le_of_ble_eq_true rfl⟩ ⟨Nat.le_of_ble_eq_true rfl, Nat.le_of_ble_eq_true rfl⟩ (Nat.le_of_ble_eq_true rfl) dX5_cellOf_2) fun x2 => ?_
  refine v_ifb_eq hc 31 dX5_cellOf_5 rfl ?_ ?_
  · refine v_iconst (x := (-1 : Int32)) hc dX5_cellOf_31 zi_m1 ?_
    exact v_iret hc hq rfl rfl (Nat.le_of_ble_eq_true rfl) (Nat.le_of_ble_eq_true rfl) rfl dX5_cellOf_32
  · refine v_iload_n (i := 2) hc 2 rfl dX5_cellOf_8 rfl ?_
    refine v_if_lt hc 31 dX5_cellOf_9 rfl ?_ ?_
    · refine v_iconst (x := (-1 : Int32)) hc dX5_cellOf_31 zi_m1 ?_
      exact v_iret hc hq rfl rfl (Nat.le_of_ble_eq_true rfl) (Nat.le_of_ble_eq_true rfl) rfl dX5_cellOf_32
    · refine v_iload_n (i := 2) hc 2 rfl dX5_cellOf_12 rfl ?_
      refine v_aload_n (i := 0) hc 0 rfl dX5_cellOf_13 rfl ?_
      refine v_getV hc kX5 1 (by decide) w_149 rfl dX5_cellOf_14 (gI rfl fun x14 => ?_)
      refine v_icmp_ge hc 31 dX5_cellOf_17 rfl ?_ ?_
      · refine v_iconst (x := (-1 : Int32)) hc dX5_cellOf_31 zi_m1 ?_
        exact v_iret hc hq rfl rfl (Nat.le_of_ble_eq_true rfl) (Nat.le_of_ble_eq_true rfl) rfl dX5_cellOf_32
      · refine v_iload_n (i := 1) hc 1 rfl dX5_cellOf_20 rfl ?_
        refine v_aload_n (i := 0) hc 0 rfl dX5_cellOf_21 rfl ?_
        refine v_getV hc kX5 1 (by decide) w_149 rfl dX5_cellOf_22 (gI rfl fun x22 => ?_)
        refine v_imul hc dX5_cellOf_25 ?_
        refine v_iload_n (i := 2) hc 2 rfl dX5_cellOf_26 rfl ?_
        refine v_iadd hc dX5_cellOf_27 ?_
        refine v_goto hc 32 dX5_cellOf_28 rfl ?_
        exact v_iret hc hq rfl rfl (Nat.le_of_ble_eq_true rfl) (Nat.le_of_ble_eq_true rfl) rfl dX5_cellOf_32
theorem s5_cellOf : YV yX5_cellOf RX5 cX5_cellOf 3 (some .int) 2 := ⟨w_435, w_434, w_0, w_110, rfl, by decide +kernel, by decide +kernel, by decide +kernel⟩
def f5_put (h : AH) (this : Nat) (p0 : Int32) (p1 : Int32) (p2 : Int32) : Option (AH) := (hObj 5 h this).bind fun _ => (f5_cellOf h this p0 p1).bind fun x3 => (if x3 < 0 then some h else (fR 5 0 h this).bind fun x16 => (aN h x16).bind fun x19 => (if x19 ≤ x3 then some h else (fR 5 0 h this).bind fun x24 => (sI 0 h x24 x3 p2).bind fun h30 => some h30))
theorem ob5_put {h : AH} {this : Nat} {p0 : Int32} {p1 : Int32} {p2 : Int32} {x : AH} (e : f5_put h this p0 p1 p2 = some x) : ∃ fs, hObj 5 h this = some fs := by
  unfold f5_put at e
  obtain ⟨fs, h1, -⟩ := bd e
  exact ⟨fs, h1⟩
set_option maxRecDepth 100000 in
theorem ct5_put (l : Launch) (D : va_G) (tys : Tys) (base : Nat) (h : AH) (this : Nat) (p0 : Int32) (p1 : Int32) (p2 : Int32) : Ct l D tys base yX5_put cX5_put 5 none 2 43 0 0 [.ref this, .int p0, .int p1, .int p2] h (wV) (f5_put h this p0 p1 p2) := by
  refine Ct.intro (own := RX5) (L := [(0, .ref this), (1, .int p0), (2, .int p1), (3, .int p2)]) rfl (by decide) rfl (Nat.le_of_ble_eq_true rfl) fun κ hc hr hq hi hL => ?_
  have hn : ∀ i, i < 5 → i < κ.2.2.2.2.1 := fun i q => hL ▸ q
  unfold f5_put
  refine v_obj ?_
  refine v_aload_n (i := 0) hc 0 rfl dX5_put_0 rfl ?_
  refine v_iload_n (i := 1) hc 1 rfl dX5_put_1 rfl ?_
  refine v_iload_n (i := 2) hc 2 rfl dX5_put_2 rfl ?_
  refine v_cI hc (m_V' (As := [.int p0, .int p1]) (b := this) (rest := []) 2 hc hr (fun l D tys base => ct5_cellOf l D tys base h this p0 p1) (fun x hx => ob5_cellOf hx) rfl s5_cellOf w_432 rfl ⟨Nat.le_of_ble_eq_true rfl, Nat.le_of_ble_eq_true rfl⟩ ⟨Nat.le_of_ble_eq_true rfl, Nat.le_of_ble_eq_true rfl⟩ (Nat.le_of_ble_eq_true rfl) dX5_put_3) fun x3 => ?_
  refine v_istore (i := 4) (L' := [(4, .int x3), (0, .ref this), (1, .int p0), (2, .int p1), (3, .int p2)]) hc dX5_put_6 (hn 4 (Nat.le_of_ble_eq_true rfl)) rfl ?_
  refine v_iload (i := 4) hc 0 rfl dX5_put_8 ?_
  refine v_if_lt hc 31 dX5_put_10 rfl ?_ ?_
  · exact v_vret hc hq (Nat.le_of_ble_eq_true rfl) (Nat.le_of_ble_eq_true rfl) rfl dX5_put_31
  · refine v_iload (i := 4) hc 0 rfl dX5_put_13 ?_
    refine v_aload_n (i := 0) hc 1 rfl dX5_put_15 rfl ?_
    refine v_getV hc kX5 0 (by decide) w_148 rfl dX5_put_16 (gR rfl fun x16 => ?_)
    refine v_alen hc dX5_put_19 fun x19 => ?_
    refine v_icmp_ge hc 31 dX5_put_20 rfl ?_ ?_
    · exact v_vret hc hq (Nat.le_of_ble_eq_true rfl) (Nat.le_of_ble_eq_true rfl) rfl dX5_put_31
    · refine v_aload_n (i := 0) hc 1 rfl dX5_put_23 rfl ?_
      refine v_getV hc kX5 0 (by decide) w_148 rfl dX5_put_24 (gR rfl fun x24 => ?_)
      refine v_iload (i := 4) hc 0 rfl dX5_put_27 ?_
      refine v_iload_n (i := 3) hc 4 rfl dX5_put_29 rfl ?_
      refine v_iast hc dX5_put_30 fun h30 => ?_
      exact v_vret hc hq (Nat.le_of_ble_eq_true rfl) (Nat.le_of_ble_eq_true rfl) rfl dX5_put_31
theorem s5_put : YV yX5_put RX5 cX5_put 5 none 3 := ⟨w_431, w_429, w_430, w_110, rfl, by decide +kernel, by decide +kernel, by decide +kernel⟩
def f5_addRow_21 (v0 : Nat) : Nat → AH → Int32 → Option (Int32 × AH)
  | 0, _, _ => none
  | n + 1, h, v1 => (fI 5 1 h v0).bind fun x23 => (if x23 ≤ v1 then (fI 5 3 h v0).bind fun x48 => some (x48 - (1 : Int32), h) else (fI 5 3 h v0).bind fun x31 => (f5_put h v0 (x31 - (1 : Int32)) v1 (0 : Int32)).bind fun x38 => (some (v1 + (1 : Int32))).bind fun x41 => f5_addRow_21 v0 n x38 x41)
set_option maxRecDepth 100000 in
theorem vl5_addRow_21 {κ : Kx} (hc : CX κ RX5 cX5_addRow) (hr : RX κ ({ frames := 3, cells := 0, slots := 0, locals := 67 } : Room)) (hq : QX κ (some .int) 0 0) (hL : 2 = κ.2.2.2.2.1)  (v0 : Nat) : ∀ n (h : AH) (v1 : Int32), V κ (wI) 0 0 21 [(0, .ref v0), (1, .int v1)] [] h (f5_addRow_21 v0 n h v1) := by
  have hn : ∀ i, i < 2 → i < κ.2.2.2.2.1 := fun i q => hL ▸ q
  intro n
  induction n with
  | zero => intros; exact v_none
  | succ n ih =>
    intro h v1
    rw [f5_addRow_21.eq_2]
    refine v_iload_n (i := 1) hc 1 rfl dX5_addRow_21 rfl ?_
    refine v_aload_n (i := 0) hc 0 rfl dX5_addRow_22 rfl ?_
    refine v_getV hc kX5 1 (by decide) w_149 rfl dX5_addRow_23 (gI rfl fun x23 => ?_)
    refine v_icmp_ge hc 47 dX5_addRow_26 rfl ?_ ?_
    · refine v_aload_n (i := 0) hc 0 rfl dX5_addRow_47 rfl ?_
      refine v_getV hc kX5 3 (by decide) w_151 rfl dX5_addRow_48 (gI rfl fun x48 => ?_)
      refine v_iconst (x := (1 : Int32)) hc dX5_addRow_51 zi_1 ?_
      refine v_isub hc dX5_addRow_52 ?_
      exact v_iret hc hq rfl rfl (Nat.le_of_ble_eq_true rfl) (Nat.le_of_ble_eq_true rfl) rfl dX5_addRow_53
    · refine v_aload_n (i := 0) hc 0 rfl dX5_addRow_29 rfl ?_
      refine v_aload_n (i := 0) hc 0 rfl dX5_addRow_30 rfl ?_
      refine v_getV hc kX5 3 (by decide) w_151 rfl dX5_addRow_31 (gI rfl fun x31 => ?_)
      refine v_iconst (x := (1 : Int32)) hc dX5_addRow_34 zi_1 ?_
      refine v_isub hc dX5_addRow_35 ?_
      refine v_iload_n (i := 1) hc 1 rfl dX5_addRow_36 rfl ?_
      refine v_iconst (x := (0 : Int32)) hc dX5_addRow_37 zi_0 ?_
      refine v_cV hc (m_V' (As := [.int (x31 - (1 : Int32)), .int v1, .int (0 : Int32)]) (b := v0) (rest := []) 3 hc hr (fun l D tys base => ct5_put l D tys base h v0 (x31 - (1 : Int32)) v1 (0 : Int32)) (fun x hx => ob5_put hx) rfl s5_put w_428 rfl ⟨Nat.le_of_ble_eq_true rfl, Nat.le_of_ble_eq_true rfl⟩ ⟨Nat.le_of_ble_eq_true rfl, Nat.le_of_ble_eq_true rfl⟩ (Nat.le_of_ble_eq_true rfl) dX5_addRow_38) fun x38 => ?_
      refine v_iincN (i := 1) (y := (1 : Int32)) (L' := fun z => [(1, .int z), (0, .ref v0)]) hc 1 rfl dX5_addRow_41 zi_1 (hn 1 (Nat.le_of_ble_eq_true rfl)) (fun _ => rfl) fun x41 => ?_
      refine v_goto hc 21 dX5_addRow_44 rfl ?_
      refine v_sub (L' := [(0, .ref v0), (1, .int x41)]) [1, 0] rfl ?_
      exact ih x38 x41
def f5_addRow (h : AH) (this : Nat) : Option (Int32 × AH) := (hObj 5 h this).bind fun _ => (f5_isFull h this).bind fun x1 => (if x1 = true then some ((-1 : Int32), h) else (fI 5 3 h this).bind fun x11 => (fS 5 3 h this (.int (x11 + (1 : Int32)))).bind fun h16 => f5_addRow_21 this FU h16 (0 : Int32))
theorem ob5_addRow {h : AH} {this : Nat} {x : Int32 × AH} (e : f5_addRow h this = some x) : ∃ fs, hObj 5 h this = some fs := by
  unfold f5_addRow at e
  obtain ⟨fs, h1, -⟩ := bd e
  exact ⟨fs, h1⟩
set_option maxRecDepth 100000 in
theorem ct5_addRow (l : Launch) (D : va_G) (tys : Tys) (base : Nat) (h : AH) (this : Nat) : Ct l D tys base yX5_addRow cX5_addRow 2 (some .int) 3 67 0 0 [.ref this] h (wI) (f5_addRow h this) := by
  refine Ct.intro (own := RX5) (L := [(0, .ref this)]) rfl (by decide) rfl (Nat.le_of_ble_eq_true rfl) fun κ hc hr hq hi hL => ?_
  have hn : ∀ i, i < 2 → i < κ.2.2.2.2.1 := fun i q => hL ▸ q
  unfold f5_addRow
  refine v_obj ?_
  refine v_aload_n (i := 0) hc 0 rfl dX5_addRow_0 rfl ?_
  refine v_cB hc (m_V' (As := []) (b := this) (rest := []) 0 hc hr (fun l D tys base => ct5_isFull l D tys base h this) (fun x hx => ob5_isFull hx) rfl s5_isFull w_424 rfl ⟨Nat.le_of_ble_eq_true rfl, Nat.le_of_ble_eq_true rfl⟩ ⟨Nat.le_of_ble_eq_true rfl, Nat.le_of_ble_eq_true rfl⟩ (Nat.le_of_ble_eq_true rfl) dX5_addRow_1) fun x1 => ?_
  refine v_ifb_eq hc 9 dX5_addRow_4 rfl ?_ ?_
  · refine v_aload_n (i := 0) hc 0 rfl dX5_addRow_9 rfl ?_
    refine v_dup hc dX5_addRow_10 rfl ?_
    refine v_getV hc kX5 3 (by decide) w_151 rfl dX5_addRow_11 (gI rfl fun x11 => ?_)
    refine v_iconst (x := (1 : Int32)) hc dX5_addRow_14 zi_1 ?_
    refine v_iadd hc dX5_addRow_15 ?_
    refine v_put hc kX5 3 (by decide) w_151 rfl rfl dX5_addRow_16 ⟨rfl, rfl⟩ fun h16 => ?_
    refine v_iconst (x := (0 : Int32)) hc dX5_addRow_19 zi_0 ?_
    refine v_istore_n (i := 1) (L' := [(1, .int (0 : Int32)), (0, .ref this)]) hc dX5_addRow_20 rfl (hn 1 (Nat.le_of_ble_eq_true rfl)) rfl ?_
    refine v_sub (L' := [(0, .ref this), (1, .int (0 : Int32))]) [1, 0] rfl ?_
    exact vl5_addRow_21 hc hr hq hL this FU h16 (0 : Int32)
  · refine v_iconst (x := (-1 : Int32)) hc dX5_addRow_7 zi_m1 ?_
    exact v_iret hc hq rfl rfl (Nat.le_of_ble_eq_true rfl) (Nat.le_of_ble_eq_true rfl) rfl dX5_addRow_8
theorem s5_addRow : YV yX5_addRow RX5 cX5_addRow 2 (some .int) 0 := ⟨w_423, w_421, w_422, w_110, rfl, by decide +kernel, by decide +kernel, by decide +kernel⟩
def f2_firstFrom_15 (h : AH) (v0 : Nat) (v1 : Int32) : Nat → Int32 → Int32 → Option (Int32)
  | 0, _, _ => none
  | n + 1, v2, v3 => (if v3 ≤ v2 then some v2 else if (2 : Int32) = 0 then none else (some ((v2 + v3) / (2 : Int32))).bind fun z24 => (fR 2 0 h v0).bind fun x28 => (aI 0 h x28 z24).bind fun x33 => (if v1 ≤ x33 then f2_firstFrom_15 h v0 v1 n v2 z24 else (some (z24 + (1 : Int32))).bind fun x42 => f2_firstFrom_15 h v0 v1 n x42 v3))
set_option maxRecDepth 100000 in
theorem vl2_firstFrom_15 {κ : Kx} (hc : CX κ RX2 cX2_firstFrom) (hr : RX κ ({ frames := 1, cells := 0, slots := 0, locals := 40 } : Room)) (hq : QX κ (some .int) 0 0) (hL : 5 = κ.2.2.2.2.1)  (h : AH) (v0 : Nat) (v1 : Int32) : ∀ n (v2 : Int32) (v3 : Int32), V κ (rI h) 0 0 15 [(0, .ref v0), (1, .int v1), (2, .int v2), (3, .int v3)] [] h (f2_firstFrom_15 h v0 v1 n v2 v3) := by
  have hn : ∀ i, i < 5 → i < κ.2.2.2.2.1 := fun i q => hL ▸ q
  intro n
  induction n with
  | zero => intros; exact v_none
  | succ n ih =>
    intro v2 v3
    rw [f2_firstFrom_15.eq_2]
    refine v_iload_n (i := 2) hc 2 rfl dX2_firstFrom_15 rfl ?_
    refine v_iload_n (i := 3) hc 3 rfl dX2_firstFrom_16 rfl ?_
    refine v_icmp_ge hc 52 dX2_firstFrom_17 rfl ?_ ?_
    · refine v_iload_n (i := 2) hc 2 rfl dX2_firstFrom_52 rfl ?_
      exact v_iret hc hq rfl rfl (Nat.le_of_ble_eq_true rfl) (Nat.le_of_ble_eq_true rfl) rfl dX2_firstFrom_53
    · refine v_iload_n (i := 2) hc 2 rfl dX2_firstFrom_20 rfl ?_
      refine v_iload_n (i := 3) hc 3 rfl dX2_firstFrom_21 rfl ?_
      refine v_iadd hc dX2_firstFrom_22 ?_
      refine v_iconst (x := (2 : Int32)) hc dX2_firstFrom_23 zi_2 ?_
      refine v_idivN hc dX2_firstFrom_24 fun z24 => ?_
      refine v_istore (i := 4) (L' := [(4, .int z24), (0, .ref v0), (1, .int v1), (2, .int v2), (3, .int v3)]) hc dX2_firstFrom_25 (hn 4 (Nat.le_of_ble_eq_true rfl)) rfl ?_
      refine v_aload_n (i := 0) hc 1 rfl dX2_firstFrom_27 rfl ?_
      refine v_getV hc kX2 0 (by decide) w_169 rfl dX2_firstFrom_28 (gR rfl fun x28 => ?_)
      refine v_iload (i := 4) hc 0 rfl dX2_firstFrom_31 ?_
      refine v_iald hc dX2_firstFrom_33 fun x33 => ?_
      refine v_iload_n (i := 1) hc 2 rfl dX2_firstFrom_34 rfl ?_
      refine v_icmp_ge hc 46 dX2_firstFrom_35 rfl ?_ ?_
      · refine v_iload (i := 4) hc 0 rfl dX2_firstFrom_46 ?_
        refine v_istore_n (i := 3) (L' := [(3, .int z24), (4, .int z24), (0, .ref v0), (1, .int v1), (2, .int v2)]) hc dX2_firstFrom_48 rfl (hn 3 (Nat.le_of_ble_eq_true rfl)) rfl ?_
        refine v_goto hc 15 dX2_firstFrom_49 rfl ?_
        refine v_sub (L' := [(0, .ref v0), (1, .int v1), (2, .int v2), (3, .int z24)]) [2, 3, 4, 0] rfl ?_
        exact ih v2 z24
      · refine v_iload (i := 4) hc 0 rfl dX2_firstFrom_38 ?_
        refine v_iconst (x := (1 : Int32)) hc dX2_firstFrom_40 zi_1 ?_
        refine v_iadd hc dX2_firstFrom_41 ?_
        refine v_nmI fun x42 => ?_
        refine v_istore_n (i := 2) (L' := [(2, .int x42), (4, .int z24), (0, .ref v0), (1, .int v1), (3, .int v3)]) hc dX2_firstFrom_42 rfl (hn 2 (Nat.le_of_ble_eq_true rfl)) rfl ?_
        refine v_goto hc 49 dX2_firstFrom_43 rfl ?_
        refine v_goto hc 15 dX2_firstFrom_49 rfl ?_
        refine v_sub (L' := [(0, .ref v0), (1, .int v1), (2, .int x42), (3, .int v3)]) [2, 3, 0, 4] rfl ?_
        exact ih x42 v3
def f2_firstFrom (h : AH) (this : Nat) (p0 : Int32) : Option (Int32) := (hObj 2 h this).bind fun _ => (fI 2 2 h this).bind fun x3 => (fR 2 0 h this).bind fun x7 => (aN h x7).bind fun x10 => (some (if x10 < x3 then x10 else x3)).bind fun z11 => f2_firstFrom_15 h this p0 FU (0 : Int32) z11
theorem ob2_firstFrom {h : AH} {this : Nat} {p0 : Int32} {x : Int32} (e : f2_firstFrom h this p0 = some x) : ∃ fs, hObj 2 h this = some fs := by
  unfold f2_firstFrom at e
  obtain ⟨fs, h1, -⟩ := bd e
  exact ⟨fs, h1⟩
set_option maxRecDepth 100000 in
theorem ct2_firstFrom (l : Launch) (D : va_G) (tys : Tys) (base : Nat) (h : AH) (this : Nat) (p0 : Int32) : Ct l D tys base yX2_firstFrom cX2_firstFrom 5 (some .int) 1 40 0 0 [.ref this, .int p0] h (rI h) (f2_firstFrom h this p0) := by
  refine Ct.intro (own := RX2) (L := [(0, .ref this), (1, .int p0)]) rfl (by decide) rfl (Nat.le_of_ble_eq_true rfl) fun κ hc hr hq hi hL => ?_
  have hn : ∀ i, i < 5 → i < κ.2.2.2.2.1 := fun i q => hL ▸ q
  unfold f2_firstFrom
  refine v_obj ?_
  refine v_iconst (x := (0 : Int32)) hc dX2_firstFrom_0 zi_0 ?_
  refine v_istore_n (i := 2) (L' := [(2, .int (0 : Int32)), (0, .ref this), (1, .int p0)]) hc dX2_firstFrom_1 rfl (hn 2 (Nat.le_of_ble_eq_true rfl)) rfl ?_
  refine v_aload_n (i := 0) hc 1 rfl dX2_firstFrom_2 rfl ?_
  refine v_getV hc kX2 2 (by decide) w_171 rfl dX2_firstFrom_3 (gI rfl fun x3 => ?_)
  refine v_aload_n (i := 0) hc 1 rfl dX2_firstFrom_6 rfl ?_
  refine v_getV hc kX2 0 (by decide) w_169 rfl dX2_firstFrom_7 (gR rfl fun x7 => ?_)
  refine v_alen hc dX2_firstFrom_10 fun x10 => ?_
  refine v_mmin hc hr w_453 w_454 w_111 w_455 (Nat.le_of_ble_eq_true rfl) (Nat.le_of_ble_eq_true rfl) (Nat.le_of_ble_eq_true rfl) (Nat.le_of_ble_eq_true rfl) dX2_firstFrom_11 (v_nmI fun z11 => ?_)
  refine v_istore_n (i := 3) (L' := [(3, .int z11), (2, .int (0 : Int32)), (0, .ref this), (1, .int p0)]) hc dX2_firstFrom_14 rfl (hn 3 (Nat.le_of_ble_eq_true rfl)) rfl ?_
  refine v_sub (L' := [(0, .ref this), (1, .int p0), (2, .int (0 : Int32)), (3, .int z11)]) [2, 3, 1, 0] rfl ?_
  exact vl2_firstFrom_15 hc hr hq hL h this p0 FU (0 : Int32) z11
theorem s2_firstFrom : YV yX2_firstFrom RX2 cX2_firstFrom 5 (some .int) 1 := ⟨w_452, w_450, w_451, w_112, rfl, by decide +kernel, by decide +kernel, by decide +kernel⟩
def f2_keyAt (h : AH) (this : Nat) (p0 : Int32) : Option (Int32) := (hObj 2 h this).bind fun _ => (if p0 < 0 then some (-1 : Int32) else (fI 2 2 h this).bind fun x6 => (if x6 ≤ p0 then some (-1 : Int32) else (fR 2 0 h this).bind fun x14 => (aN h x14).bind fun x17 => (if x17 ≤ p0 then some (-1 : Int32) else (fR 2 0 h this).bind fun x22 => (aI 0 h x22 p0).bind fun x26 => some x26)))
theorem ob2_keyAt {h : AH} {this : Nat} {p0 : Int32} {x : Int32} (e : f2_keyAt h this p0 = some x) : ∃ fs, hObj 2 h this = some fs := by
  unfold f2_keyAt at e
  obtain ⟨fs, h1, -⟩ := bd e
  exact ⟨fs, h1⟩
set_option maxRecDepth 100000 in
theorem ct2_keyAt (l : Launch) (D : va_G) (tys : Tys) (base : Nat) (h : AH) (this : Nat) (p0 : Int32) : Ct l D tys base yX2_keyAt cX2_keyAt 2 (some .int) 0 0 0 0 [.ref this, .int p0] h (rI h) (f2_keyAt h this p0) := by
  refine Ct.intro (own := RX2) (L := [(0, .ref this), (1, .int p0)]) rfl (by decide) rfl (Nat.le_of_ble_eq_true rfl) fun κ hc hr hq hi hL => ?_
  have hn : ∀ i, i < 2 → i < κ.2.2.2.2.1 := fun i q => hL ▸ q
  unfold f2_keyAt
  refine v_obj ?_
  refine v_iload_n (i := 1) hc 1 rfl dX2_keyAt_0 rfl ?_
  refine v_if_lt hc 30 dX2_keyAt_1 rfl ?_ ?_
  · refine v_iconst (x := (-1 : Int32)) hc dX2_keyAt_30 zi_m1 ?_
    exact v_iret hc hq rfl rfl (Nat.le_of_ble_eq_true rfl) (Nat.le_of_ble_eq_true rfl) rfl dX2_keyAt_31
  · refine v_iload_n (i := 1) hc 1 rfl dX2_keyAt_4 rfl ?_
    refine v_aload_n (i := 0) hc 0 rfl dX2_keyAt_5 rfl ?_
    refine v_getV hc kX2 2 (by decide) w_171 rfl dX2_keyAt_6 (gI rfl fun x6 => ?_)
    refine v_icmp_ge hc 30 dX2_keyAt_9 rfl ?_ ?_
    · refine v_iconst (x := (-1 : Int32)) hc dX2_keyAt_30 zi_m1 ?_
      exact v_iret hc hq rfl rfl (Nat.le_of_ble_eq_true rfl) (Nat.le_of_ble_eq_true rfl) rfl dX2_keyAt_31
    · refine v_iload_n (i := 1) hc 1 rfl dX2_keyAt_12 rfl ?_
      refine v_aload_n (i := 0) hc 0 rfl dX2_keyAt_13 rfl ?_
      refine v_getV hc kX2 0 (by decide) w_169 rfl dX2_keyAt_14 (gR rfl fun x14 => ?_)
      refine v_alen hc dX2_keyAt_17 fun x17 => ?_
      refine v_icmp_ge hc 30 dX2_keyAt_18 rfl ?_ ?_
      · refine v_iconst (x := (-1 : Int32)) hc dX2_keyAt_30 zi_m1 ?_
        exact v_iret hc hq rfl rfl (Nat.le_of_ble_eq_true rfl) (Nat.le_of_ble_eq_true rfl) rfl dX2_keyAt_31
      · refine v_aload_n (i := 0) hc 0 rfl dX2_keyAt_21 rfl ?_
        refine v_getV hc kX2 0 (by decide) w_169 rfl dX2_keyAt_22 (gR rfl fun x22 => ?_)
        refine v_iload_n (i := 1) hc 1 rfl dX2_keyAt_25 rfl ?_
        refine v_iald hc dX2_keyAt_26 fun x26 => ?_
        refine v_goto hc 31 dX2_keyAt_27 rfl ?_
        exact v_iret hc hq rfl rfl (Nat.le_of_ble_eq_true rfl) (Nat.le_of_ble_eq_true rfl) rfl dX2_keyAt_31
theorem s2_keyAt : YV yX2_keyAt RX2 cX2_keyAt 2 (some .int) 1 := ⟨w_459, w_457, w_458, w_112, rfl, by decide +kernel, by decide +kernel, by decide +kernel⟩
def f2_insert (h : AH) (this : Nat) (p0 : Int32) (p1 : Int32) : Option (Int32 × AH) := (hObj 2 h this).bind fun _ => (f2_firstFrom h this p0).bind fun x2 => (fI 2 2 h this).bind fun x7 => (fR 2 0 h this).bind fun x11 => (aN h x11).bind fun x14 => (if x14 ≤ x7 then some ((-1 : Int32), h) else (fI 2 2 h this).bind fun x19 => (fR 2 1 h this).bind fun x23 => (aN h x23).bind fun x26 => (if x26 ≤ x19 then some ((-1 : Int32), h) else (if x2 < 0 then some ((-1 : Int32), h) else (fI 2 2 h this).bind fun x36 => (if x36 < x2 then some ((-1 : Int32), h) else (f2_keyAt h this x2).bind fun x44 => (if x44 = p0 then some ((-1 : Int32), h) else (fR 2 0 h this).bind fun x54 => (fR 2 0 h this).bind fun x59 => (fI 2 2 h this).bind fun x66 => (cpI h x54 x2 x59 (x2 + (1 : Int32)) (x66 - x2)).bind fun h71 => (fR 2 1 h71 this).bind fun x75 => (fR 2 1 h71 this).bind fun x80 => (fI 2 2 h71 this).bind fun x87 => (cpI h71 x75 x2 x80 (x2 + (1 : Int32)) (x87 - x2)).bind fun h92 => (fR 2 0 h92 this).bind fun x96 => (sI 0 h92 x96 x2 p0).bind fun h101 => (fR 2 1 h101 this).bind fun x103 => (sI 0 h101 x103 x2 p1).bind fun h108 => (fI 2 2 h108 this).bind fun x111 => (fS 2 2 h108 this (.int (x111 + (1 : Int32)))).bind fun h116 => (fI 2 2 h116 this).bind fun x120 => some (x120, h116))))))
theorem ob2_insert {h : AH} {this : Nat} {p0 : Int32} {p1 : Int32} {x : Int32 × AH} (e : f2_insert h this p0 p1 = some x) : ∃ fs, hObj 2 h this = some fs := by
  unfold f2_insert at e
  obtain ⟨fs, h1, -⟩ := bd e
  exact ⟨fs, h1⟩
set_option maxRecDepth 100000 in
theorem ct2_insert (l : Launch) (D : va_G) (tys : Tys) (base : Nat) (h : AH) (this : Nat) (p0 : Int32) (p1 : Int32) : Ct l D tys base yX2_insert cX2_insert 4 (some .int) 2 64 0 0 [.ref this, .int p0, .int p1] h (wI) (f2_insert h this p0 p1) := by
  refine Ct.intro (own := RX2) (L := [(0, .ref this), (1, .int p0), (2, .int p1)]) rfl (by decide) rfl (Nat.le_of_ble_eq_true rfl) fun κ hc hr hq hi hL => ?_
  have hn : ∀ i, i < 4 → i < κ.2.2.2.2.1 := fun i q => hL ▸ q
  unfold f2_insert
  refine v_obj ?_
  refine v_aload_n (i := 0) hc 0 rfl dX2_insert_0 rfl ?_
  refine v_iload_n (i := 1) hc 1 rfl dX2_insert_1 rfl ?_
  refine v_cI hc (m_V' (As := [.int p0]) (b := this) (rest := []) 1 hc hr (fun l D tys base => ct2_firstFrom l D tys base h this p0) (fun x hx => ob2_firstFrom hx) rfl s2_firstFrom w_449 rfl ⟨Nat.le_of_ble_eq_true rfl, Nat.le_of_ble_eq_true rfl⟩ ⟨Nat.le_of_ble_eq_true rfl, Nat.le_of_ble_eq_true rfl⟩ (Nat.le_of_ble_eq_true rfl) dX2_insert_2) fun x2 => ?_
  refine v_istore_n (i := 3) (L' := [(3, .int x2), (0, .ref this), (1, .int p0), (2, .int p1)]) hc dX2_insert_5 rfl (hn 3 (Nat.le_of_ble_eq_true rfl)) rfl ?_
  refine v_aload_n (i := 0) hc 1 rfl dX2_insert_6 rfl ?_
  refine v_getV hc kX2 2 (by decide) w_171 rfl dX2_insert_7 (gI rfl fun x7 => ?_)
  refine v_aload_n (i := 0) hc 1 rfl dX2_insert_10 rfl ?_
  refine v_getV hc kX2 0 (by decide) w_169 rfl dX2_insert_11 (gR rfl fun x11 => ?_)
  refine v_alen hc dX2_insert_14 fun x14 => ?_
  refine v_icmp_ge hc 51 dX2_insert_15 rfl ?_ ?_
  · refine v_iconst (x := (-1 : Int32)) hc dX2_insert_51 zi_m1 ?_
    exact v_iret hc hq rfl rfl (Nat.le_of_ble_eq_true rfl) (Nat.le_of_ble_eq_true rfl) rfl dX2_insert_52
  · refine v_aload_n (i := 0) hc 1 rfl dX2_insert_18 rfl ?_
    refine v_getV hc kX2 2 (by decide) w_171 rfl dX2_insert_19 (gI rfl fun x19 => ?_)
    refine v_aload_n (i := 0) hc 1 rfl dX2_insert_22 rfl ?_
    refine v_getV hc kX2 1 (by decide) w_170 rfl dX2_insert_23 (gR rfl fun x23 => ?_)
    refine v_alen hc dX2_insert_26 fun x26 => ?_
    refine v_icmp_ge hc 51 dX2_insert_27 rfl ?_ ?_
    · refine v_iconst (x := (-1 : Int32)) hc dX2_insert_51 zi_m1 ?_
      exact v_iret hc hq rfl rfl (Nat.le_of_ble_eq_true rfl) (Nat.le_of_ble_eq_true rfl) rfl dX2_insert_52
    · refine v_iload_n (i := 3) hc 0 rfl dX2_insert_30 rfl ?_
      refine v_if_lt hc 51 dX2_insert_31 rfl ?_ ?_
      · refine v_iconst (x := (-1 : Int32)) hc dX2_insert_51 zi_m1 ?_
        exact v_iret hc hq rfl rfl (Nat.le_of_ble_eq_true rfl) (Nat.le_of_ble_eq_true rfl) rfl dX2_insert_52
      · refine v_iload_n (i := 3) hc 0 rfl dX2_insert_34 rfl ?_
        refine v_aload_n (i := 0) hc 1 rfl dX2_insert_35 rfl ?_
        refine v_getV hc kX2 2 (by decide) w_171 rfl dX2_insert_36 (gI rfl fun x36 => ?_)
        refine v_icmp_gt hc 51 dX2_insert_39 rfl ?_ ?_
        · refine v_iconst (x := (-1 : Int32)) hc dX2_insert_51 zi_m1 ?_
          exact v_iret hc hq rfl rfl (Nat.le_of_ble_eq_true rfl) (Nat.le_of_ble_eq_true rfl) rfl dX2_insert_52
        · refine v_aload_n (i := 0) hc 1 rfl dX2_insert_42 rfl ?_
          refine v_iload_n (i := 3) hc 0 rfl dX2_insert_43 rfl ?_
          refine v_cI hc (m_V' (As := [.int x2]) (b := this) (rest := []) 1 hc hr (fun l D tys base => ct2_keyAt l D tys base h this x2) (fun x hx => ob2_keyAt hx) rfl s2_keyAt w_456 rfl ⟨Nat.le_of_ble_eq_true rfl, Nat.le_of_ble_eq_true rfl⟩ ⟨Nat.le_of_ble_eq_true rfl, Nat.le_of_ble_eq_true rfl⟩ (Nat.le_of_ble_eq_true rfl) dX2_insert_44) fun x44 => ?_
          refine v_iload_n (i := 1) hc 2 rfl dX2_insert_47 rfl ?_
          refine v_icmp_ne hc 53 dX2_insert_48 rfl ?_ ?_
          · refine v_aload_n (i := 0) hc 1 rfl dX2_insert_53 rfl ?_
            refine v_getV hc kX2 0 (by decide) w_169 rfl dX2_insert_54 (gR rfl fun x54 => ?_)
            refine v_iload_n (i := 3) hc 0 rfl dX2_insert_57 rfl ?_
            refine v_aload_n (i := 0) hc 1 rfl dX2_insert_58 rfl ?_
            refine v_getV hc kX2 0 (by decide) w_169 rfl dX2_insert_59 (gR rfl fun x59 => ?_)
            refine v_iload_n (i := 3) hc 0 rfl dX2_insert_62 rfl ?_
            refine v_iconst (x := (1 : Int32)) hc dX2_insert_63 zi_1 ?_
            refine v_iadd hc dX2_insert_64 ?_
            refine v_aload_n (i := 0) hc 1 rfl dX2_insert_65 rfl ?_
            refine v_getV hc kX2 2 (by decide) w_171 rfl dX2_insert_66 (gI rfl fun x66 => ?_)
            refine v_iload_n (i := 3) hc 0 rfl dX2_insert_69 rfl ?_
            refine v_isub hc dX2_insert_70 ?_
            refine v_copy hc hr w_460 w_462 w_461 w_119 (Nat.le_of_ble_eq_true rfl) (by decide +kernel) dX2_insert_71 fun h71 => ?_
            refine v_aload_n (i := 0) hc 1 rfl dX2_insert_74 rfl ?_
            refine v_getV hc kX2 1 (by decide) w_170 rfl dX2_insert_75 (gR rfl fun x75 => ?_)
            refine v_iload_n (i := 3) hc 0 rfl dX2_insert_78 rfl ?_
            refine v_aload_n (i := 0) hc 1 rfl dX2_insert_79 rfl ?_
            refine v_getV hc kX2 1 (by decide) w_170 rfl dX2_insert_80 (gR rfl fun x80 => ?_)
            refine v_iload_n (i := 3) hc 0 rfl dX2_insert_83 rfl ?_
            refine v_iconst (x := (1 : Int32)) hc dX2_insert_84 zi_1 ?_
            refine v_iadd hc dX2_insert_85 ?_
            refine v_aload_n (i := 0) hc 1 rfl dX2_insert_86 rfl ?_
            refine v_getV hc kX2 2 (by decide) w_171 rfl dX2_insert_87 (gI rfl fun x87 => ?_)
            refine v_iload_n (i := 3) hc 0 rfl dX2_insert_90 rfl ?_
            refine v_isub hc dX2_insert_91 ?_
            refine v_copy hc hr w_460 w_462 w_461 w_119 (Nat.le_of_ble_eq_true rfl) (by decide +kernel) dX2_insert_92 fun h92 => ?_
            refine v_aload_n (i := 0) hc 1 rfl dX2_insert_95 rfl ?_
            refine v_getV hc kX2 0 (by decide) w_169 rfl dX2_insert_96 (gR rfl fun x96 => ?_)
            refine v_iload_n (i := 3) hc 0 rfl dX2_insert_99 rfl ?_
            refine v_iload_n (i := 1) hc 2 rfl dX2_insert_100 rfl ?_
            refine v_iast hc dX2_insert_101 fun h101 => ?_
            refine v_aload_n (i := 0) hc 1 rfl dX2_insert_102 rfl ?_
            refine v_getV hc kX2 1 (by decide) w_170 rfl dX2_insert_103 (gR rfl fun x103 => ?_)
            refine v_iload_n (i := 3) hc 0 rfl dX2_insert_106 rfl ?_
            refine v_iload_n (i := 2) hc 3 rfl dX2_insert_107 rfl ?_
            refine v_iast hc dX2_insert_108 fun h108 => ?_
            refine v_aload_n (i := 0) hc 1 rfl dX2_insert_109 rfl ?_
            refine v_dup hc dX2_insert_110 rfl ?_
            refine v_getV hc kX2 2 (by decide) w_171 rfl dX2_insert_111 (gI rfl fun x111 => ?_)
            refine v_iconst (x := (1 : Int32)) hc dX2_insert_114 zi_1 ?_
            refine v_iadd hc dX2_insert_115 ?_
            refine v_put hc kX2 2 (by decide) w_171 rfl rfl dX2_insert_116 ⟨rfl, rfl⟩ fun h116 => ?_
            refine v_aload_n (i := 0) hc 1 rfl dX2_insert_119 rfl ?_
            refine v_getV hc kX2 2 (by decide) w_171 rfl dX2_insert_120 (gI rfl fun x120 => ?_)
            exact v_iret hc hq rfl rfl (Nat.le_of_ble_eq_true rfl) (Nat.le_of_ble_eq_true rfl) rfl dX2_insert_123
          · refine v_iconst (x := (-1 : Int32)) hc dX2_insert_51 zi_m1 ?_
            exact v_iret hc hq rfl rfl (Nat.le_of_ble_eq_true rfl) (Nat.le_of_ble_eq_true rfl) rfl dX2_insert_52
theorem s2_insert : YV yX2_insert RX2 cX2_insert 4 (some .int) 2 := ⟨w_448, w_446, w_447, w_112, rfl, by decide +kernel, by decide +kernel, by decide +kernel⟩
def f8_isHand (h : AH) (p0 : Int32) (p1 : Int32) (p2 : Int32) (p3 : Int32) (p4 : Int32) : Option (Bool) := (f8_isFrom h p0 (0 : Int32) (99 : Int32)).bind fun x4 => (if x4 = true then (f8_isFrom h p1 (0 : Int32) (99 : Int32)).bind fun x14 => (if x14 = true then (f8_isFrom h p2 (0 : Int32) (99 : Int32)).bind fun x24 => (if x24 = true then (f8_isFrom h p3 (0 : Int32) (99 : Int32)).bind fun x34 => (if x34 = true then (f8_isFrom h p4 (0 : Int32) (99 : Int32)).bind fun x45 => (if x45 = true then some true else some false) else some false) else some false) else some false) else some false)
set_option maxRecDepth 100000 in
theorem ct8_isHand (l : Launch) (D : va_G) (tys : Tys) (base : Nat) (h : AH) (p0 : Int32) (p1 : Int32) (p2 : Int32) (p3 : Int32) (p4 : Int32) : Ct l D tys base yX8_isHand cX8_isHand 5 (some .boolean) 1 22 0 0 [.int p0, .int p1, .int p2, .int p3, .int p4] h (rB h) (f8_isHand h p0 p1 p2 p3 p4) := by
  refine Ct.intro (own := RX8) (L := [(0, .int p0), (1, .int p1), (2, .int p2), (3, .int p3), (4, .int p4)]) rfl (by decide) rfl (Nat.le_of_ble_eq_true rfl) fun κ hc hr hq hi hL => ?_
  have hn : ∀ i, i < 5 → i < κ.2.2.2.2.1 := fun i q => hL ▸ q
  unfold f8_isHand
  refine v_iload_n (i := 0) hc 0 rfl dX8_isHand_0 rfl ?_
  refine v_iconst (x := (0 : Int32)) hc dX8_isHand_1 zi_0 ?_
  refine v_bipush (x := (99 : Int32)) hc dX8_isHand_2 zb_99 ?_
  refine v_cB hc (m_S' (As := [.int p0, .int (0 : Int32), .int (99 : Int32)]) (rest := []) 3 hc hr (fun l D tys base => ct8_isFrom l D tys base h p0 (0 : Int32) (99 : Int32)) s8_isFrom w_413 rfl ⟨Nat.le_of_ble_eq_true rfl, Nat.le_of_ble_eq_true rfl⟩ ⟨Nat.le_of_ble_eq_true rfl, Nat.le_of_ble_eq_true rfl⟩ (Nat.le_of_ble_eq_true rfl) dX8_isHand_4) fun x4 => ?_
  refine v_ifb_eq hc 55 dX8_isHand_7 rfl ?_ ?_
  · refine v_iconst (x := (0 : Int32)) hc dX8_isHand_55 zi_0 ?_
    exact v_iret (v := bI false) hc hq rfl (nar_b false) (Nat.le_of_ble_eq_true rfl) (Nat.le_of_ble_eq_true rfl) rfl dX8_isHand_56
  · refine v_iload_n (i := 1) hc 1 rfl dX8_isHand_10 rfl ?_
    refine v_iconst (x := (0 : Int32)) hc dX8_isHand_11 zi_0 ?_
    refine v_bipush (x := (99 : Int32)) hc dX8_isHand_12 zb_99 ?_
    refine v_cB hc (m_S' (As := [.int p1, .int (0 : Int32), .int (99 : Int32)]) (rest := []) 3 hc hr (fun l D tys base => ct8_isFrom l D tys base h p1 (0 : Int32) (99 : Int32)) s8_isFrom w_413 rfl ⟨Nat.le_of_ble_eq_true rfl, Nat.le_of_ble_eq_true rfl⟩ ⟨Nat.le_of_ble_eq_true rfl, Nat.le_of_ble_eq_true rfl⟩ (Nat.le_of_ble_eq_true rfl) dX8_isHand_14) fun x14 => ?_
    refine v_ifb_eq hc 55 dX8_isHand_17 rfl ?_ ?_
    · refine v_iconst (x := (0 : Int32)) hc dX8_isHand_55 zi_0 ?_
      exact v_iret (v := bI false) hc hq rfl (nar_b false) (Nat.le_of_ble_eq_true rfl) (Nat.le_of_ble_eq_true rfl) rfl dX8_isHand_56
    · refine v_iload_n (i := 2) hc 2 rfl dX8_isHand_20 rfl ?_
      refine v_iconst (x := (0 : Int32)) hc dX8_isHand_21 zi_0 ?_
      refine v_bipush (x := (99 : Int32)) hc dX8_isHand_22 zb_99 ?_
      refine v_cB hc (m_S' (As := [.int p2, .int (0 : Int32), .int (99 : Int32)]) (rest := []) 3 hc hr (fun l D tys base => ct8_isFrom l D tys base h p2 (0 : Int32) (99 : Int32)) s8_isFrom w_413 rfl ⟨Nat.le_of_ble_eq_true rfl, Nat.le_of_ble_eq_true rfl⟩ ⟨Nat.le_of_ble_eq_true rfl, Nat.le_of_ble_eq_true rfl⟩ (Nat.le_of_ble_eq_true rfl) dX8_isHand_24) fun x24 => ?_
      refine v_ifb_eq hc 55 dX8_isHand_27 rfl ?_ ?_
      · refine v_iconst (x := (0 : Int32)) hc dX8_isHand_55 zi_0 ?_
        exact v_iret (v := bI false) hc hq rfl (nar_b false) (Nat.le_of_ble_eq_true rfl) (Nat.le_of_ble_eq_true rfl) rfl dX8_isHand_56
      · refine v_iload_n (i := 3) hc 3 rfl dX8_isHand_30 rfl ?_
        refine v_iconst (x := (0 : Int32)) hc dX8_isHand_31 zi_0 ?_
        refine v_bipush (x := (99 : Int32)) hc dX8_isHand_32 zb_99 ?_
        refine v_cB hc (m_S' (As := [.int p3, .int (0 : Int32), .int (99 : Int32)]) (rest := []) 3 hc hr (fun l D tys base => ct8_isFrom l D tys base h p3 (0 : Int32) (99 : Int32)) s8_isFrom w_413 rfl ⟨Nat.le_of_ble_eq_true rfl, Nat.le_of_ble_eq_true rfl⟩ ⟨Nat.le_of_ble_eq_true rfl, Nat.le_of_ble_eq_true rfl⟩ (Nat.le_of_ble_eq_true rfl) dX8_isHand_34) fun x34 => ?_
        refine v_ifb_eq hc 55 dX8_isHand_37 rfl ?_ ?_
        · refine v_iconst (x := (0 : Int32)) hc dX8_isHand_55 zi_0 ?_
          exact v_iret (v := bI false) hc hq rfl (nar_b false) (Nat.le_of_ble_eq_true rfl) (Nat.le_of_ble_eq_true rfl) rfl dX8_isHand_56
        · refine v_iload (i := 4) hc 4 rfl dX8_isHand_40 ?_
          refine v_iconst (x := (0 : Int32)) hc dX8_isHand_42 zi_0 ?_
          refine v_bipush (x := (99 : Int32)) hc dX8_isHand_43 zb_99 ?_
          refine v_cB hc (m_S' (As := [.int p4, .int (0 : Int32), .int (99 : Int32)]) (rest := []) 3 hc hr (fun l D tys base => ct8_isFrom l D tys base h p4 (0 : Int32) (99 : Int32)) s8_isFrom w_413 rfl ⟨Nat.le_of_ble_eq_true rfl, Nat.le_of_ble_eq_true rfl⟩ ⟨Nat.le_of_ble_eq_true rfl, Nat.le_of_ble_eq_true rfl⟩ (Nat.le_of_ble_eq_true rfl) dX8_isHand_45) fun x45 => ?_
          refine v_ifb_eq hc 55 dX8_isHand_48 rfl ?_ ?_
          · refine v_iconst (x := (0 : Int32)) hc dX8_isHand_55 zi_0 ?_
            exact v_iret (v := bI false) hc hq rfl (nar_b false) (Nat.le_of_ble_eq_true rfl) (Nat.le_of_ble_eq_true rfl) rfl dX8_isHand_56
          · refine v_iconst (x := (1 : Int32)) hc dX8_isHand_51 zi_1 ?_
            refine v_goto hc 56 dX8_isHand_52 rfl ?_
            exact v_iret (v := bI true) hc hq rfl (nar_b true) (Nat.le_of_ble_eq_true rfl) (Nat.le_of_ble_eq_true rfl) rfl dX8_isHand_56
theorem s8_isHand : YS yX8_isHand cX8_isHand 5 (some .boolean) 5 := ⟨w_473, w_472, w_108, by decide +kernel, by decide +kernel, by decide +kernel⟩
def f5_size (h : AH) (this : Nat) : Option (Int32) := (hObj 5 h this).bind fun _ => (fI 5 3 h this).bind fun x1 => some x1
theorem ob5_size {h : AH} {this : Nat} {x : Int32} (e : f5_size h this = some x) : ∃ fs, hObj 5 h this = some fs := by
  unfold f5_size at e
  obtain ⟨fs, h1, -⟩ := bd e
  exact ⟨fs, h1⟩
set_option maxRecDepth 100000 in
theorem ct5_size (l : Launch) (D : va_G) (tys : Tys) (base : Nat) (h : AH) (this : Nat) : Ct l D tys base yX5_size cX5_size 1 (some .int) 0 0 0 0 [.ref this] h (rI h) (f5_size h this) := by
  refine Ct.intro (own := RX5) (L := [(0, .ref this)]) rfl (by decide) rfl (Nat.le_of_ble_eq_true rfl) fun κ hc hr hq hi hL => ?_
  have hn : ∀ i, i < 1 → i < κ.2.2.2.2.1 := fun i q => hL ▸ q
  unfold f5_size
  refine v_obj ?_
  refine v_aload_n (i := 0) hc 0 rfl dX5_size_0 rfl ?_
  refine v_getV hc kX5 3 (by decide) w_151 rfl dX5_size_1 (gI rfl fun x1 => ?_)
  exact v_iret hc hq rfl rfl (Nat.le_of_ble_eq_true rfl) (Nat.le_of_ble_eq_true rfl) rfl dX5_size_4
theorem s5_size : YV yX5_size RX5 cX5_size 1 (some .int) 0 := ⟨w_477, w_475, w_476, w_110, rfl, by decide +kernel, by decide +kernel, by decide +kernel⟩
def f2_placeAt (h : AH) (this : Nat) (p0 : Int32) : Option (Int32) := (hObj 2 h this).bind fun _ => (if p0 < 0 then some (-1 : Int32) else (fI 2 2 h this).bind fun x6 => (if x6 ≤ p0 then some (-1 : Int32) else (fR 2 1 h this).bind fun x14 => (aN h x14).bind fun x17 => (if x17 ≤ p0 then some (-1 : Int32) else (fR 2 1 h this).bind fun x22 => (aI 0 h x22 p0).bind fun x26 => some x26)))
theorem ob2_placeAt {h : AH} {this : Nat} {p0 : Int32} {x : Int32} (e : f2_placeAt h this p0 = some x) : ∃ fs, hObj 2 h this = some fs := by
  unfold f2_placeAt at e
  obtain ⟨fs, h1, -⟩ := bd e
  exact ⟨fs, h1⟩
set_option maxRecDepth 100000 in
theorem ct2_placeAt (l : Launch) (D : va_G) (tys : Tys) (base : Nat) (h : AH) (this : Nat) (p0 : Int32) : Ct l D tys base yX2_placeAt cX2_placeAt 2 (some .int) 0 0 0 0 [.ref this, .int p0] h (rI h) (f2_placeAt h this p0) := by
  refine Ct.intro (own := RX2) (L := [(0, .ref this), (1, .int p0)]) rfl (by decide) rfl (Nat.le_of_ble_eq_true rfl) fun κ hc hr hq hi hL => ?_
  have hn : ∀ i, i < 2 → i < κ.2.2.2.2.1 := fun i q => hL ▸ q
  unfold f2_placeAt
  refine v_obj ?_
  refine v_iload_n (i := 1) hc 1 rfl dX2_placeAt_0 rfl ?_
  refine v_if_lt hc 30 dX2_placeAt_1 rfl ?_ ?_
  · refine v_iconst (x := (-1 : Int32)) hc dX2_placeAt_30 zi_m1 ?_
    exact v_iret hc hq rfl rfl (Nat.le_of_ble_eq_true rfl) (Nat.le_of_ble_eq_true rfl) rfl dX2_placeAt_31
  · refine v_iload_n (i := 1) hc 1 rfl dX2_placeAt_4 rfl ?_
    refine v_aload_n (i := 0) hc 0 rfl dX2_placeAt_5 rfl ?_
    refine v_getV hc kX2 2 (by decide) w_171 rfl dX2_placeAt_6 (gI rfl fun x6 => ?_)
    refine v_icmp_ge hc 30 dX2_placeAt_9 rfl ?_ ?_
    · refine v_iconst (x := (-1 : Int32)) hc dX2_placeAt_30 zi_m1 ?_
      exact v_iret hc hq rfl rfl (Nat.le_of_ble_eq_true rfl) (Nat.le_of_ble_eq_true rfl) rfl dX2_placeAt_31
    · refine v_iload_n (i := 1) hc 1 rfl dX2_placeAt_12 rfl ?_
      refine v_aload_n (i := 0) hc 0 rfl dX2_placeAt_13 rfl ?_
      refine v_getV hc kX2 1 (by decide) w_170 rfl dX2_placeAt_14 (gR rfl fun x14 => ?_)
      refine v_alen hc dX2_placeAt_17 fun x17 => ?_
      refine v_icmp_ge hc 30 dX2_placeAt_18 rfl ?_ ?_
      · refine v_iconst (x := (-1 : Int32)) hc dX2_placeAt_30 zi_m1 ?_
        exact v_iret hc hq rfl rfl (Nat.le_of_ble_eq_true rfl) (Nat.le_of_ble_eq_true rfl) rfl dX2_placeAt_31
      · refine v_aload_n (i := 0) hc 0 rfl dX2_placeAt_21 rfl ?_
        refine v_getV hc kX2 1 (by decide) w_170 rfl dX2_placeAt_22 (gR rfl fun x22 => ?_)
        refine v_iload_n (i := 1) hc 1 rfl dX2_placeAt_25 rfl ?_
        refine v_iald hc dX2_placeAt_26 fun x26 => ?_
        refine v_goto hc 31 dX2_placeAt_27 rfl ?_
        exact v_iret hc hq rfl rfl (Nat.le_of_ble_eq_true rfl) (Nat.le_of_ble_eq_true rfl) rfl dX2_placeAt_31
theorem s2_placeAt : YV yX2_placeAt RX2 cX2_placeAt 2 (some .int) 1 := ⟨w_520, w_518, w_519, w_112, rfl, by decide +kernel, by decide +kernel, by decide +kernel⟩
def f2_placeOf (h : AH) (this : Nat) (p0 : Int32) : Option (Int32) := (hObj 2 h this).bind fun _ => (f2_firstFrom h this p0).bind fun x2 => (f2_keyAt h this x2).bind fun x8 => (if x8 = p0 then (f2_placeAt h this x2).bind fun x17 => some x17 else some (-1 : Int32))
theorem ob2_placeOf {h : AH} {this : Nat} {p0 : Int32} {x : Int32} (e : f2_placeOf h this p0 = some x) : ∃ fs, hObj 2 h this = some fs := by
  unfold f2_placeOf at e
  obtain ⟨fs, h1, -⟩ := bd e
  exact ⟨fs, h1⟩
set_option maxRecDepth 100000 in
theorem ct2_placeOf (l : Launch) (D : va_G) (tys : Tys) (base : Nat) (h : AH) (this : Nat) (p0 : Int32) : Ct l D tys base yX2_placeOf cX2_placeOf 3 (some .int) 2 64 0 0 [.ref this, .int p0] h (rI h) (f2_placeOf h this p0) := by
  refine Ct.intro (own := RX2) (L := [(0, .ref this), (1, .int p0)]) rfl (by decide) rfl (Nat.le_of_ble_eq_true rfl) fun κ hc hr hq hi hL => ?_
  have hn : ∀ i, i < 3 → i < κ.2.2.2.2.1 := fun i q => hL ▸ q
  unfold f2_placeOf
  refine v_obj ?_
  refine v_aload_n (i := 0) hc 0 rfl dX2_placeOf_0 rfl ?_
  refine v_iload_n (i := 1) hc 1 rfl dX2_placeOf_1 rfl ?_
  refine v_cI hc (m_V' (As := [.int p0]) (b := this) (rest := []) 1 hc hr (fun l D tys base => ct2_firstFrom l D tys base h this p0) (fun x hx => ob2_firstFrom hx) rfl s2_firstFrom w_449 rfl ⟨Nat.le_of_ble_eq_true rfl, Nat.le_of_ble_eq_true rfl⟩ ⟨Nat.le_of_ble_eq_true rfl, Nat.le_of_ble_eq_true rfl⟩ (Nat.le_of_ble_eq_true rfl) dX2_placeOf_2) fun x2 => ?_
  refine v_istore_n (i := 2) (L' := [(2, .int x2), (0, .ref this), (1, .int p0)]) hc dX2_placeOf_5 rfl (hn 2 (Nat.le_of_ble_eq_true rfl)) rfl ?_
  refine v_aload_n (i := 0) hc 1 rfl dX2_placeOf_6 rfl ?_
  refine v_iload_n (i := 2) hc 0 rfl dX2_placeOf_7 rfl ?_
  refine v_cI hc (m_V' (As := [.int x2]) (b := this) (rest := []) 1 hc hr (fun l D tys base => ct2_keyAt l D tys base h this x2) (fun x hx => ob2_keyAt hx) rfl s2_keyAt w_456 rfl ⟨Nat.le_of_ble_eq_true rfl, Nat.le_of_ble_eq_true rfl⟩ ⟨Nat.le_of_ble_eq_true rfl, Nat.le_of_ble_eq_true rfl⟩ (Nat.le_of_ble_eq_true rfl) dX2_placeOf_8) fun x8 => ?_
  refine v_iload_n (i := 1) hc 2 rfl dX2_placeOf_11 rfl ?_
  refine v_icmp_ne hc 23 dX2_placeOf_12 rfl ?_ ?_
  · refine v_iconst (x := (-1 : Int32)) hc dX2_placeOf_23 zi_m1 ?_
    exact v_iret hc hq rfl rfl (Nat.le_of_ble_eq_true rfl) (Nat.le_of_ble_eq_true rfl) rfl dX2_placeOf_24
  · refine v_aload_n (i := 0) hc 1 rfl dX2_placeOf_15 rfl ?_
    refine v_iload_n (i := 2) hc 0 rfl dX2_placeOf_16 rfl ?_
    refine v_cI hc (m_V' (As := [.int x2]) (b := this) (rest := []) 1 hc hr (fun l D tys base => ct2_placeAt l D tys base h this x2) (fun x hx => ob2_placeAt hx) rfl s2_placeAt w_517 rfl ⟨Nat.le_of_ble_eq_true rfl, Nat.le_of_ble_eq_true rfl⟩ ⟨Nat.le_of_ble_eq_true rfl, Nat.le_of_ble_eq_true rfl⟩ (Nat.le_of_ble_eq_true rfl) dX2_placeOf_17) fun x17 => ?_
    refine v_goto hc 24 dX2_placeOf_20 rfl ?_
    exact v_iret hc hq rfl rfl (Nat.le_of_ble_eq_true rfl) (Nat.le_of_ble_eq_true rfl) rfl dX2_placeOf_24
theorem s2_placeOf : YV yX2_placeOf RX2 cX2_placeOf 3 (some .int) 1 := ⟨w_516, w_514, w_515, w_112, rfl, by decide +kernel, by decide +kernel, by decide +kernel⟩
def f2_hasKey (h : AH) (this : Nat) (p0 : Int32) : Option (Bool) := (hObj 2 h this).bind fun _ => (f2_firstFrom h this p0).bind fun x3 => (f2_keyAt h this x3).bind fun x6 => (if x6 = p0 then some true else some false)
theorem ob2_hasKey {h : AH} {this : Nat} {p0 : Int32} {x : Bool} (e : f2_hasKey h this p0 = some x) : ∃ fs, hObj 2 h this = some fs := by
  unfold f2_hasKey at e
  obtain ⟨fs, h1, -⟩ := bd e
  exact ⟨fs, h1⟩
set_option maxRecDepth 100000 in
theorem ct2_hasKey (l : Launch) (D : va_G) (tys : Tys) (base : Nat) (h : AH) (this : Nat) (p0 : Int32) : Ct l D tys base yX2_hasKey cX2_hasKey 2 (some .boolean) 2 64 0 0 [.ref this, .int p0] h (rB h) (f2_hasKey h this p0) := by
  refine Ct.intro (own := RX2) (L := [(0, .ref this), (1, .int p0)]) rfl (by decide) rfl (Nat.le_of_ble_eq_true rfl) fun κ hc hr hq hi hL => ?_
  have hn : ∀ i, i < 2 → i < κ.2.2.2.2.1 := fun i q => hL ▸ q
  unfold f2_hasKey
  refine v_obj ?_
  refine v_aload_n (i := 0) hc 0 rfl dX2_hasKey_0 rfl ?_
  refine v_aload_n (i := 0) hc 0 rfl dX2_hasKey_1 rfl ?_
  refine v_iload_n (i := 1) hc 1 rfl dX2_hasKey_2 rfl ?_
  refine v_cI hc (m_V' (As := [.int p0]) (b := this) (rest := [.ref this]) 1 hc hr (fun l D tys base => ct2_firstFrom l D tys base h this p0) (fun x hx => ob2_firstFrom hx) rfl s2_firstFrom w_449 rfl ⟨Nat.le_of_ble_eq_true rfl, Nat.le_of_ble_eq_true rfl⟩ ⟨Nat.le_of_ble_eq_true rfl, Nat.le_of_ble_eq_true rfl⟩ (Nat.le_of_ble_eq_true rfl) dX2_hasKey_3) fun x3 => ?_
  refine v_cI hc (m_V' (As := [.int x3]) (b := this) (rest := []) 1 hc hr (fun l D tys base => ct2_keyAt l D tys base h this x3) (fun x hx => ob2_keyAt hx) rfl s2_keyAt w_456 rfl ⟨Nat.le_of_ble_eq_true rfl, Nat.le_of_ble_eq_true rfl⟩ ⟨Nat.le_of_ble_eq_true rfl, Nat.le_of_ble_eq_true rfl⟩ (Nat.le_of_ble_eq_true rfl) dX2_hasKey_6) fun x6 => ?_
  refine v_iload_n (i := 1) hc 1 rfl dX2_hasKey_9 rfl ?_
  refine v_icmp_ne hc 17 dX2_hasKey_10 rfl ?_ ?_
  · refine v_iconst (x := (0 : Int32)) hc dX2_hasKey_17 zi_0 ?_
    exact v_iret (v := bI false) hc hq rfl (nar_b false) (Nat.le_of_ble_eq_true rfl) (Nat.le_of_ble_eq_true rfl) rfl dX2_hasKey_18
  · refine v_iconst (x := (1 : Int32)) hc dX2_hasKey_13 zi_1 ?_
    refine v_goto hc 18 dX2_hasKey_14 rfl ?_
    exact v_iret (v := bI true) hc hq rfl (nar_b true) (Nat.le_of_ble_eq_true rfl) (Nat.le_of_ble_eq_true rfl) rfl dX2_hasKey_18
theorem s2_hasKey : YV yX2_hasKey RX2 cX2_hasKey 2 (some .boolean) 1 := ⟨w_541, w_539, w_540, w_112, rfl, by decide +kernel, by decide +kernel, by decide +kernel⟩
def f5_at (h : AH) (this : Nat) (p0 : Int32) (p1 : Int32) : Option (Int32) := (hObj 5 h this).bind fun _ => (f5_cellOf h this p0 p1).bind fun x3 => (if x3 < 0 then some (-1 : Int32) else (fR 5 0 h this).bind fun x13 => (aN h x13).bind fun x16 => (if x16 ≤ x3 then some (-1 : Int32) else (fR 5 0 h this).bind fun x21 => (aI 0 h x21 x3).bind fun x25 => some x25))
theorem ob5_at {h : AH} {this : Nat} {p0 : Int32} {p1 : Int32} {x : Int32} (e : f5_at h this p0 p1 = some x) : ∃ fs, hObj 5 h this = some fs := by
  unfold f5_at at e
  obtain ⟨fs, h1, -⟩ := bd e
  exact ⟨fs, h1⟩
set_option maxRecDepth 100000 in
theorem ct5_at (l : Launch) (D : va_G) (tys : Tys) (base : Nat) (h : AH) (this : Nat) (p0 : Int32) (p1 : Int32) : Ct l D tys base yX5_at cX5_at 4 (some .int) 2 43 0 0 [.ref this, .int p0, .int p1] h (rI h) (f5_at h this p0 p1) := by
  refine Ct.intro (own := RX5) (L := [(0, .ref this), (1, .int p0), (2, .int p1)]) rfl (by decide) rfl (Nat.le_of_ble_eq_true rfl) fun κ hc hr hq hi hL => ?_
  have hn : ∀ i, i < 4 → i < κ.2.2.2.2.1 := fun i q => hL ▸ q
  unfold f5_at
  refine v_obj ?_
  refine v_aload_n (i := 0) hc 0 rfl dX5_at_0 rfl ?_
  refine v_iload_n (i := 1) hc 1 rfl dX5_at_1 rfl ?_
  refine v_iload_n (i := 2) hc 2 rfl dX5_at_2 rfl ?_
  refine v_cI hc (m_V' (As := [.int p0, .int p1]) (b := this) (rest := []) 2 hc hr (fun l D tys base => ct5_cellOf l D tys base h this p0 p1) (fun x hx => ob5_cellOf hx) rfl s5_cellOf w_432 rfl ⟨Nat.le_of_ble_eq_true rfl, Nat.le_of_ble_eq_true rfl⟩ ⟨Nat.le_of_ble_eq_true rfl, Nat.le_of_ble_eq_true rfl⟩ (Nat.le_of_ble_eq_true rfl) dX5_at_3) fun x3 => ?_
  refine v_istore_n (i := 3) (L' := [(3, .int x3), (0, .ref this), (1, .int p0), (2, .int p1)]) hc dX5_at_6 rfl (hn 3 (Nat.le_of_ble_eq_true rfl)) rfl ?_
  refine v_iload_n (i := 3) hc 0 rfl dX5_at_7 rfl ?_
  refine v_if_lt hc 29 dX5_at_8 rfl ?_ ?_
  · refine v_iconst (x := (-1 : Int32)) hc dX5_at_29 zi_m1 ?_
    exact v_iret hc hq rfl rfl (Nat.le_of_ble_eq_true rfl) (Nat.le_of_ble_eq_true rfl) rfl dX5_at_30
  · refine v_iload_n (i := 3) hc 0 rfl dX5_at_11 rfl ?_
    refine v_aload_n (i := 0) hc 1 rfl dX5_at_12 rfl ?_
    refine v_getV hc kX5 0 (by decide) w_148 rfl dX5_at_13 (gR rfl fun x13 => ?_)
    refine v_alen hc dX5_at_16 fun x16 => ?_
    refine v_icmp_ge hc 29 dX5_at_17 rfl ?_ ?_
    · refine v_iconst (x := (-1 : Int32)) hc dX5_at_29 zi_m1 ?_
      exact v_iret hc hq rfl rfl (Nat.le_of_ble_eq_true rfl) (Nat.le_of_ble_eq_true rfl) rfl dX5_at_30
    · refine v_aload_n (i := 0) hc 1 rfl dX5_at_20 rfl ?_
      refine v_getV hc kX5 0 (by decide) w_148 rfl dX5_at_21 (gR rfl fun x21 => ?_)
      refine v_iload_n (i := 3) hc 0 rfl dX5_at_24 rfl ?_
      refine v_iald hc dX5_at_25 fun x25 => ?_
      refine v_goto hc 30 dX5_at_26 rfl ?_
      exact v_iret hc hq rfl rfl (Nat.le_of_ble_eq_true rfl) (Nat.le_of_ble_eq_true rfl) rfl dX5_at_30
theorem s5_at : YV yX5_at RX5 cX5_at 4 (some .int) 2 := ⟨w_549, w_547, w_548, w_110, rfl, by decide +kernel, by decide +kernel, by decide +kernel⟩
def f8_hasBit (h : AH) (p0 : Int32) (p1 : Int32) : Option (Bool) := (if ((p0 >>> (p1 &&& 31)) &&& (1 : Int32)) = 0 then some false else some true)
set_option maxRecDepth 100000 in
theorem ct8_hasBit (l : Launch) (D : va_G) (tys : Tys) (base : Nat) (h : AH) (p0 : Int32) (p1 : Int32) : Ct l D tys base yX8_hasBit cX8_hasBit 2 (some .boolean) 0 0 0 0 [.int p0, .int p1] h (rB h) (f8_hasBit h p0 p1) := by
  refine Ct.intro (own := RX8) (L := [(0, .int p0), (1, .int p1)]) rfl (by decide) rfl (Nat.le_of_ble_eq_true rfl) fun κ hc hr hq hi hL => ?_
  have hn : ∀ i, i < 2 → i < κ.2.2.2.2.1 := fun i q => hL ▸ q
  unfold f8_hasBit
  refine v_iload_n (i := 0) hc 0 rfl dX8_hasBit_0 rfl ?_
  refine v_iload_n (i := 1) hc 1 rfl dX8_hasBit_1 rfl ?_
  refine v_ishr hc dX8_hasBit_2 ?_
  refine v_iconst (x := (1 : Int32)) hc dX8_hasBit_3 zi_1 ?_
  refine v_iand hc dX8_hasBit_4 ?_
  refine v_if_eq hc 12 dX8_hasBit_5 rfl ?_ ?_
  · refine v_iconst (x := (0 : Int32)) hc dX8_hasBit_12 zi_0 ?_
    exact v_iret (v := bI false) hc hq rfl (nar_b false) (Nat.le_of_ble_eq_true rfl) (Nat.le_of_ble_eq_true rfl) rfl dX8_hasBit_13
  · refine v_iconst (x := (1 : Int32)) hc dX8_hasBit_8 zi_1 ?_
    refine v_goto hc 13 dX8_hasBit_9 rfl ?_
    exact v_iret (v := bI true) hc hq rfl (nar_b true) (Nat.le_of_ble_eq_true rfl) (Nat.le_of_ble_eq_true rfl) rfl dX8_hasBit_13
theorem s8_hasBit : YS yX8_hasBit cX8_hasBit 2 (some .boolean) 2 := ⟨w_559, w_558, w_108, by decide +kernel, by decide +kernel, by decide +kernel⟩
def f8_drawn (h : AH) (p0 : Int32) : Option (Int32) := some ((((p0.toInt64 * (1103515245 : Int64)) + (12345 : Int64)) &&& (2147483647 : Int64)).toInt32)
set_option maxRecDepth 100000 in
theorem ct8_drawn (l : Launch) (D : va_G) (tys : Tys) (base : Nat) (h : AH) (p0 : Int32) : Ct l D tys base yX8_drawn cX8_drawn 1 (some .int) 0 0 0 0 [.int p0] h (rI h) (f8_drawn h p0) := by
  refine Ct.intro (own := RX8) (L := [(0, .int p0)]) rfl (by decide) rfl (Nat.le_of_ble_eq_true rfl) fun κ hc hr hq hi hL => ?_
  have hn : ∀ i, i < 1 → i < κ.2.2.2.2.1 := fun i q => hL ▸ q
  unfold f8_drawn
  refine v_iload_n (i := 0) hc 0 rfl dX8_drawn_0 rfl ?_
  refine v_i2l hc dX8_drawn_1 ?_
  refine v_ldc2 (x := (1103515245 : Int64)) hc w_878 dX8_drawn_2 ?_
  refine v_lmul hc dX8_drawn_5 ?_
  refine v_ldc2 (x := (12345 : Int64)) hc w_879 dX8_drawn_6 ?_
  refine v_ladd hc dX8_drawn_9 ?_
  refine v_ldc2 (x := (2147483647 : Int64)) hc w_880 dX8_drawn_10 ?_
  refine v_land hc dX8_drawn_13 ?_
  refine v_l2i hc dX8_drawn_14 ?_
  exact v_iret hc hq rfl rfl (Nat.le_of_ble_eq_true rfl) (Nat.le_of_ble_eq_true rfl) rfl dX8_drawn_15
theorem s8_drawn : YS yX8_drawn cX8_drawn 1 (some .int) 1 := ⟨w_877, w_876, w_108, by decide +kernel, by decide +kernel, by decide +kernel⟩
def f8_perMille (h : AH) (p0 : Int32) : Option (Int32) := if (1000 : Int32) = 0 then none else (some ((p0 >>> ((16 : Int32) &&& 31)) - (p0 >>> ((16 : Int32) &&& 31)) / (1000 : Int32) * (1000 : Int32))).bind fun z7 => some z7
set_option maxRecDepth 100000 in
theorem ct8_perMille (l : Launch) (D : va_G) (tys : Tys) (base : Nat) (h : AH) (p0 : Int32) : Ct l D tys base yX8_perMille cX8_perMille 1 (some .int) 0 0 0 0 [.int p0] h (rI h) (f8_perMille h p0) := by
  refine Ct.intro (own := RX8) (L := [(0, .int p0)]) rfl (by decide) rfl (Nat.le_of_ble_eq_true rfl) fun κ hc hr hq hi hL => ?_
  have hn : ∀ i, i < 1 → i < κ.2.2.2.2.1 := fun i q => hL ▸ q
  unfold f8_perMille
  refine v_iload_n (i := 0) hc 0 rfl dX8_perMille_0 rfl ?_
  refine v_bipush (x := (16 : Int32)) hc dX8_perMille_1 zb_16 ?_
  refine v_ishr hc dX8_perMille_3 ?_
  refine v_sipush (x := (1000 : Int32)) hc dX8_perMille_4 zs_1000 ?_
  refine v_iremN hc dX8_perMille_7 fun z7 => ?_
  exact v_iret hc hq rfl rfl (Nat.le_of_ble_eq_true rfl) (Nat.le_of_ble_eq_true rfl) rfl dX8_perMille_8
theorem s8_perMille : YS yX8_perMille cX8_perMille 1 (some .int) 1 := ⟨w_883, w_882, w_108, by decide +kernel, by decide +kernel, by decide +kernel⟩
def fJ6_bitCount_0f7a4 (h : AH) (p0 : Int32) : Option (Int32) := (some (p0 - (((p0.toUInt32 >>> ((1 : Int32).toUInt32 &&& Int32.toUInt32 31)).toInt32) &&& (1431655765 : Int32)))).bind fun x9 => (some ((x9 &&& (858993459 : Int32)) + (((x9.toUInt32 >>> ((2 : Int32).toUInt32 &&& Int32.toUInt32 31)).toInt32) &&& (858993459 : Int32)))).bind fun x23 => (some ((x23 + ((x23.toUInt32 >>> ((4 : Int32).toUInt32 &&& Int32.toUInt32 31)).toInt32)) &&& (252645135 : Int32))).bind fun x33 => (some (x33 + ((x33.toUInt32 >>> ((8 : Int32).toUInt32 &&& Int32.toUInt32 31)).toInt32))).bind fun x40 => (some (x40 + ((x40.toUInt32 >>> ((16 : Int32).toUInt32 &&& Int32.toUInt32 31)).toInt32))).bind fun x47 => some (x47 &&& (63 : Int32))
set_option maxRecDepth 100000 in
theorem ctJ6_bitCount_0f7a4 (l : Launch) (D : va_G) (tys : Tys) (base : Nat) (h : AH) (p0 : Int32) : Ct l D tys base yJ6_bitCount_0f7a4 cJ6_bitCount_0f7a4 1 (some .int) 0 0 0 0 [.int p0] h (rI h) (fJ6_bitCount_0f7a4 h p0) := by
  refine Ct.intro (own := RJ6) (L := [(0, .int p0)]) rfl (by decide) rfl (Nat.le_of_ble_eq_true rfl) fun κ hc hr hq hi hL => ?_
  have hn : ∀ i, i < 1 → i < κ.2.2.2.2.1 := fun i q => hL ▸ q
  unfold fJ6_bitCount_0f7a4
  refine v_iload_n (i := 0) hc 0 rfl dJ6_bitCount_0f7a4_0 rfl ?_
  refine v_iload_n (i := 0) hc 0 rfl dJ6_bitCount_0f7a4_1 rfl ?_
  refine v_iconst (x := (1 : Int32)) hc dJ6_bitCount_0f7a4_2 zi_1 ?_
  refine v_iushr hc dJ6_bitCount_0f7a4_3 ?_
  refine v_ldcw (x := (1431655765 : Int32)) hc w_938 dJ6_bitCount_0f7a4_4 ?_
  refine v_iand hc dJ6_bitCount_0f7a4_7 ?_
  refine v_isub hc dJ6_bitCount_0f7a4_8 ?_
  refine v_nmI fun x9 => ?_
  refine v_istore_n (i := 0) (L' := [(0, .int x9)]) hc dJ6_bitCount_0f7a4_9 rfl (hn 0 (Nat.le_of_ble_eq_true rfl)) rfl ?_
  refine v_iload_n (i := 0) hc 0 rfl dJ6_bitCount_0f7a4_10 rfl ?_
  refine v_ldcw (x := (858993459 : Int32)) hc w_939 dJ6_bitCount_0f7a4_11 ?_
  refine v_iand hc dJ6_bitCount_0f7a4_14 ?_
  refine v_iload_n (i := 0) hc 0 rfl dJ6_bitCount_0f7a4_15 rfl ?_
  refine v_iconst (x := (2 : Int32)) hc dJ6_bitCount_0f7a4_16 zi_2 ?_
  refine v_iushr hc dJ6_bitCount_0f7a4_17 ?_
  refine v_ldcw (x := (858993459 : Int32)) hc w_939 dJ6_bitCount_0f7a4_18 ?_
  refine v_iand hc dJ6_bitCount_0f7a4_21 ?_
  refine v_iadd hc dJ6_bitCount_0f7a4_22 ?_
  refine v_nmI fun x23 => ?_
  refine v_istore_n (i := 0) (L' := [(0, .int x23)]) hc dJ6_bitCount_0f7a4_23 rfl (hn 0 (Nat.le_of_ble_eq_true rfl)) rfl ?_
  refine v_iload_n (i := 0) hc 0 rfl dJ6_bitCount_0f7a4_24 rfl ?_
  refine v_iload_n (i := 0) hc 0 rfl dJ6_bitCount_0f7a4_25 rfl ?_
  refine v_iconst (x := (4 : Int32)) hc dJ6_bitCount_0f7a4_26 zi_4 ?_
  refine v_iushr hc dJ6_bitCount_0f7a4_27 ?_
  refine v_iadd hc dJ6_bitCount_0f7a4_28 ?_
  refine v_ldcw (x := (252645135 : Int32)) hc w_940 dJ6_bitCount_0f7a4_29 ?_
  refine v_iand hc dJ6_bitCount_0f7a4_32 ?_
  refine v_nmI fun x33 => ?_
  refine v_istore_n (i := 0) (L' := [(0, .int x33)]) hc dJ6_bitCount_0f7a4_33 rfl (hn 0 (Nat.le_of_ble_eq_true rfl)) rfl ?_
  refine v_iload_n (i := 0) hc 0 rfl dJ6_bitCount_0f7a4_34 rfl ?_
  refine v_iload_n (i := 0) hc 0 rfl dJ6_bitCount_0f7a4_35 rfl ?_
  refine v_bipush (x := (8 : Int32)) hc dJ6_bitCount_0f7a4_36 zb_8 ?_
  refine v_iushr hc dJ6_bitCount_0f7a4_38 ?_
  refine v_iadd hc dJ6_bitCount_0f7a4_39 ?_
  refine v_nmI fun x40 => ?_
  refine v_istore_n (i := 0) (L' := [(0, .int x40)]) hc dJ6_bitCount_0f7a4_40 rfl (hn 0 (Nat.le_of_ble_eq_true rfl)) rfl ?_
  refine v_iload_n (i := 0) hc 0 rfl dJ6_bitCount_0f7a4_41 rfl ?_
  refine v_iload_n (i := 0) hc 0 rfl dJ6_bitCount_0f7a4_42 rfl ?_
  refine v_bipush (x := (16 : Int32)) hc dJ6_bitCount_0f7a4_43 zb_16 ?_
  refine v_iushr hc dJ6_bitCount_0f7a4_45 ?_
  refine v_iadd hc dJ6_bitCount_0f7a4_46 ?_
  refine v_nmI fun x47 => ?_
  refine v_istore_n (i := 0) (L' := [(0, .int x47)]) hc dJ6_bitCount_0f7a4_47 rfl (hn 0 (Nat.le_of_ble_eq_true rfl)) rfl ?_
  refine v_iload_n (i := 0) hc 0 rfl dJ6_bitCount_0f7a4_48 rfl ?_
  refine v_bipush (x := (63 : Int32)) hc dJ6_bitCount_0f7a4_49 zb_63 ?_
  refine v_iand hc dJ6_bitCount_0f7a4_51 ?_
  exact v_iret hc hq rfl rfl (Nat.le_of_ble_eq_true rfl) (Nat.le_of_ble_eq_true rfl) rfl dJ6_bitCount_0f7a4_52
theorem sJ6_bitCount_0f7a4 : YS yJ6_bitCount_0f7a4 cJ6_bitCount_0f7a4 1 (some .int) 1 := ⟨w_937, w_936, w_124, by decide +kernel, by decide +kernel, by decide +kernel⟩
def fJ6_signum_0f7a4 (h : AH) (p0 : Int32) : Option (Int32) := some ((p0 >>> ((31 : Int32) &&& 31)) ||| (((-p0).toUInt32 >>> ((31 : Int32).toUInt32 &&& Int32.toUInt32 31)).toInt32))
set_option maxRecDepth 100000 in
theorem ctJ6_signum_0f7a4 (l : Launch) (D : va_G) (tys : Tys) (base : Nat) (h : AH) (p0 : Int32) : Ct l D tys base yJ6_signum_0f7a4 cJ6_signum_0f7a4 1 (some .int) 0 0 0 0 [.int p0] h (rI h) (fJ6_signum_0f7a4 h p0) := by
  refine Ct.intro (own := RJ6) (L := [(0, .int p0)]) rfl (by decide) rfl (Nat.le_of_ble_eq_true rfl) fun κ hc hr hq hi hL => ?_
  have hn : ∀ i, i < 1 → i < κ.2.2.2.2.1 := fun i q => hL ▸ q
  unfold fJ6_signum_0f7a4
  refine v_iload_n (i := 0) hc 0 rfl dJ6_signum_0f7a4_0 rfl ?_
  refine v_bipush (x := (31 : Int32)) hc dJ6_signum_0f7a4_1 zb_31 ?_
  refine v_ishr hc dJ6_signum_0f7a4_3 ?_
  refine v_iload_n (i := 0) hc 0 rfl dJ6_signum_0f7a4_4 rfl ?_
  refine v_ineg hc dJ6_signum_0f7a4_5 ?_
  refine v_bipush (x := (31 : Int32)) hc dJ6_signum_0f7a4_6 zb_31 ?_
  refine v_iushr hc dJ6_signum_0f7a4_8 ?_
  refine v_ior hc dJ6_signum_0f7a4_9 ?_
  exact v_iret hc hq rfl rfl (Nat.le_of_ble_eq_true rfl) (Nat.le_of_ble_eq_true rfl) rfl dJ6_signum_0f7a4_10
theorem sJ6_signum_0f7a4 : YS yJ6_signum_0f7a4 cJ6_signum_0f7a4 1 (some .int) 1 := ⟨w_989, w_988, w_124, by decide +kernel, by decide +kernel, by decide +kernel⟩
def f2_size (h : AH) (this : Nat) : Option (Int32) := (hObj 2 h this).bind fun _ => (fI 2 2 h this).bind fun x1 => some x1
theorem ob2_size {h : AH} {this : Nat} {x : Int32} (e : f2_size h this = some x) : ∃ fs, hObj 2 h this = some fs := by
  unfold f2_size at e
  obtain ⟨fs, h1, -⟩ := bd e
  exact ⟨fs, h1⟩
set_option maxRecDepth 100000 in
theorem ct2_size (l : Launch) (D : va_G) (tys : Tys) (base : Nat) (h : AH) (this : Nat) : Ct l D tys base yX2_size cX2_size 1 (some .int) 0 0 0 0 [.ref this] h (rI h) (f2_size h this) := by
  refine Ct.intro (own := RX2) (L := [(0, .ref this)]) rfl (by decide) rfl (Nat.le_of_ble_eq_true rfl) fun κ hc hr hq hi hL => ?_
  have hn : ∀ i, i < 1 → i < κ.2.2.2.2.1 := fun i q => hL ▸ q
  unfold f2_size
  refine v_obj ?_
  refine v_aload_n (i := 0) hc 0 rfl dX2_size_0 rfl ?_
  refine v_getV hc kX2 2 (by decide) w_171 rfl dX2_size_1 (gI rfl fun x1 => ?_)
  exact v_iret hc hq rfl rfl (Nat.le_of_ble_eq_true rfl) (Nat.le_of_ble_eq_true rfl) rfl dX2_size_4
theorem s2_size : YV yX2_size RX2 cX2_size 1 (some .int) 0 := ⟨w_1009, w_1007, w_1008, w_112, rfl, by decide +kernel, by decide +kernel, by decide +kernel⟩
def f5_copyFrom (h : AH) (this : Nat) (p0 : Nat) : Option (AH) := (hObj 5 h this).bind fun _ => (fI 5 3 h p0).bind fun x1 => (fI 5 1 h p0).bind fun x5 => (some (x1 * x5)).bind fun x9 => (fR 5 0 h this).bind fun x12 => (aN h x12).bind fun x15 => (if x15 < x9 then some h else (fR 5 0 h p0).bind fun x21 => (aN h x21).bind fun x24 => (if x24 < x9 then some h else (fI 5 1 h this).bind fun x29 => (fI 5 1 h p0).bind fun x33 => (if x29 = x33 then (fR 5 0 h p0).bind fun x40 => (fR 5 0 h this).bind fun x45 => (cpI h x40 (0 : Int32) x45 (0 : Int32) x9).bind fun h50 => (fI 5 3 h50 p0).bind fun x55 => (fS 5 3 h50 this (.int x55)).bind fun h58 => some h58 else some h)))
theorem ob5_copyFrom {h : AH} {this : Nat} {p0 : Nat} {x : AH} (e : f5_copyFrom h this p0 = some x) : ∃ fs, hObj 5 h this = some fs := by
  unfold f5_copyFrom at e
  obtain ⟨fs, h1, -⟩ := bd e
  exact ⟨fs, h1⟩
set_option maxRecDepth 100000 in
theorem ct5_copyFrom (l : Launch) (D : va_G) (tys : Tys) (base : Nat) (h : AH) (this : Nat) (p0 : Nat) : Ct l D tys base yX5_copyFrom cX5_copyFrom 3 none 1 40 0 0 [.ref this, .ref p0] h (wV) (f5_copyFrom h this p0) := by
  refine Ct.intro (own := RX5) (L := [(0, .ref this), (1, .ref p0)]) rfl (by decide) rfl (Nat.le_of_ble_eq_true rfl) fun κ hc hr hq hi hL => ?_
  have hn : ∀ i, i < 3 → i < κ.2.2.2.2.1 := fun i q => hL ▸ q
  unfold f5_copyFrom
  refine v_obj ?_
  refine v_aload_n (i := 1) hc 1 rfl dX5_copyFrom_0 rfl ?_
  refine v_getV hc kX5 3 (by decide) w_151 rfl dX5_copyFrom_1 (gI rfl fun x1 => ?_)
  refine v_aload_n (i := 1) hc 1 rfl dX5_copyFrom_4 rfl ?_
  refine v_getV hc kX5 1 (by decide) w_149 rfl dX5_copyFrom_5 (gI rfl fun x5 => ?_)
  refine v_imul hc dX5_copyFrom_8 ?_
  refine v_nmI fun x9 => ?_
  refine v_istore_n (i := 2) (L' := [(2, .int x9), (0, .ref this), (1, .ref p0)]) hc dX5_copyFrom_9 rfl (hn 2 (Nat.le_of_ble_eq_true rfl)) rfl ?_
  refine v_iload_n (i := 2) hc 0 rfl dX5_copyFrom_10 rfl ?_
  refine v_aload_n (i := 0) hc 1 rfl dX5_copyFrom_11 rfl ?_
  refine v_getV hc kX5 0 (by decide) w_148 rfl dX5_copyFrom_12 (gR rfl fun x12 => ?_)
  refine v_alen hc dX5_copyFrom_15 fun x15 => ?_
  refine v_icmp_gt hc 61 dX5_copyFrom_16 rfl ?_ ?_
  · exact v_vret hc hq (Nat.le_of_ble_eq_true rfl) (Nat.le_of_ble_eq_true rfl) rfl dX5_copyFrom_61
  · refine v_iload_n (i := 2) hc 0 rfl dX5_copyFrom_19 rfl ?_
    refine v_aload_n (i := 1) hc 2 rfl dX5_copyFrom_20 rfl ?_
    refine v_getV hc kX5 0 (by decide) w_148 rfl dX5_copyFrom_21 (gR rfl fun x21 => ?_)
    refine v_alen hc dX5_copyFrom_24 fun x24 => ?_
    refine v_icmp_gt hc 61 dX5_copyFrom_25 rfl ?_ ?_
    · exact v_vret hc hq (Nat.le_of_ble_eq_true rfl) (Nat.le_of_ble_eq_true rfl) rfl dX5_copyFrom_61
    · refine v_aload_n (i := 0) hc 1 rfl dX5_copyFrom_28 rfl ?_
      refine v_getV hc kX5 1 (by decide) w_149 rfl dX5_copyFrom_29 (gI rfl fun x29 => ?_)
      refine v_aload_n (i := 1) hc 2 rfl dX5_copyFrom_32 rfl ?_
      refine v_getV hc kX5 1 (by decide) w_149 rfl dX5_copyFrom_33 (gI rfl fun x33 => ?_)
      refine v_icmp_ne hc 61 dX5_copyFrom_36 rfl ?_ ?_
      · exact v_vret hc hq (Nat.le_of_ble_eq_true rfl) (Nat.le_of_ble_eq_true rfl) rfl dX5_copyFrom_61
      · refine v_aload_n (i := 1) hc 2 rfl dX5_copyFrom_39 rfl ?_
        refine v_getV hc kX5 0 (by decide) w_148 rfl dX5_copyFrom_40 (gR rfl fun x40 => ?_)
        refine v_iconst (x := (0 : Int32)) hc dX5_copyFrom_43 zi_0 ?_
        refine v_aload_n (i := 0) hc 1 rfl dX5_copyFrom_44 rfl ?_
        refine v_getV hc kX5 0 (by decide) w_148 rfl dX5_copyFrom_45 (gR rfl fun x45 => ?_)
        refine v_iconst (x := (0 : Int32)) hc dX5_copyFrom_48 zi_0 ?_
        refine v_iload_n (i := 2) hc 0 rfl dX5_copyFrom_49 rfl ?_
        refine v_copy hc hr w_1116 w_462 w_461 w_119 (Nat.le_of_ble_eq_true rfl) (by decide +kernel) dX5_copyFrom_50 fun h50 => ?_
        refine v_aload_n (i := 0) hc 1 rfl dX5_copyFrom_53 rfl ?_
        refine v_aload_n (i := 1) hc 2 rfl dX5_copyFrom_54 rfl ?_
        refine v_getV hc kX5 3 (by decide) w_151 rfl dX5_copyFrom_55 (gI rfl fun x55 => ?_)
        refine v_put hc kX5 3 (by decide) w_151 rfl rfl dX5_copyFrom_58 ⟨rfl, rfl⟩ fun h58 => ?_
        exact v_vret hc hq (Nat.le_of_ble_eq_true rfl) (Nat.le_of_ble_eq_true rfl) rfl dX5_copyFrom_61
theorem s5_copyFrom : YV yX5_copyFrom RX5 cX5_copyFrom 3 none 1 := ⟨w_1115, w_1113, w_1114, w_110, rfl, by decide +kernel, by decide +kernel, by decide +kernel⟩
def f2_copyFrom (h : AH) (this : Nat) (p0 : Nat) : Option (AH) := (hObj 2 h this).bind fun _ => (fI 2 2 h p0).bind fun x1 => (fR 2 0 h this).bind fun x5 => (aN h x5).bind fun x8 => (if x8 < x1 then some h else (fI 2 2 h p0).bind fun x13 => (fR 2 1 h this).bind fun x17 => (aN h x17).bind fun x20 => (if x20 < x13 then some h else (fR 2 0 h this).bind fun x25 => (aN h x25).bind fun x28 => (fR 2 0 h p0).bind fun x30 => (aN h x30).bind fun x33 => (if x28 = x33 then (fR 2 0 h p0).bind fun x38 => (fR 2 0 h this).bind fun x43 => (fI 2 2 h p0).bind fun x48 => (cpI h x38 (0 : Int32) x43 (0 : Int32) x48).bind fun h51 => (fR 2 1 h51 p0).bind fun x55 => (fR 2 1 h51 this).bind fun x60 => (fI 2 2 h51 p0).bind fun x65 => (cpI h51 x55 (0 : Int32) x60 (0 : Int32) x65).bind fun h68 => (fI 2 2 h68 p0).bind fun x73 => (fS 2 2 h68 this (.int x73)).bind fun h76 => some h76 else some h)))
theorem ob2_copyFrom {h : AH} {this : Nat} {p0 : Nat} {x : AH} (e : f2_copyFrom h this p0 = some x) : ∃ fs, hObj 2 h this = some fs := by
  unfold f2_copyFrom at e
  obtain ⟨fs, h1, -⟩ := bd e
  exact ⟨fs, h1⟩
set_option maxRecDepth 100000 in
theorem ct2_copyFrom (l : Launch) (D : va_G) (tys : Tys) (base : Nat) (h : AH) (this : Nat) (p0 : Nat) : Ct l D tys base yX2_copyFrom cX2_copyFrom 2 none 1 40 0 0 [.ref this, .ref p0] h (wV) (f2_copyFrom h this p0) := by
  refine Ct.intro (own := RX2) (L := [(0, .ref this), (1, .ref p0)]) rfl (by decide) rfl (Nat.le_of_ble_eq_true rfl) fun κ hc hr hq hi hL => ?_
  have hn : ∀ i, i < 2 → i < κ.2.2.2.2.1 := fun i q => hL ▸ q
  unfold f2_copyFrom
  refine v_obj ?_
  refine v_aload_n (i := 1) hc 1 rfl dX2_copyFrom_0 rfl ?_
  refine v_getV hc kX2 2 (by decide) w_171 rfl dX2_copyFrom_1 (gI rfl fun x1 => ?_)
  refine v_aload_n (i := 0) hc 0 rfl dX2_copyFrom_4 rfl ?_
  refine v_getV hc kX2 0 (by decide) w_169 rfl dX2_copyFrom_5 (gR rfl fun x5 => ?_)
  refine v_alen hc dX2_copyFrom_8 fun x8 => ?_
  refine v_icmp_gt hc 79 dX2_copyFrom_9 rfl ?_ ?_
  · exact v_vret hc hq (Nat.le_of_ble_eq_true rfl) (Nat.le_of_ble_eq_true rfl) rfl dX2_copyFrom_79
  · refine v_aload_n (i := 1) hc 1 rfl dX2_copyFrom_12 rfl ?_
    refine v_getV hc kX2 2 (by decide) w_171 rfl dX2_copyFrom_13 (gI rfl fun x13 => ?_)
    refine v_aload_n (i := 0) hc 0 rfl dX2_copyFrom_16 rfl ?_
    refine v_getV hc kX2 1 (by decide) w_170 rfl dX2_copyFrom_17 (gR rfl fun x17 => ?_)
    refine v_alen hc dX2_copyFrom_20 fun x20 => ?_
    refine v_icmp_gt hc 79 dX2_copyFrom_21 rfl ?_ ?_
    · exact v_vret hc hq (Nat.le_of_ble_eq_true rfl) (Nat.le_of_ble_eq_true rfl) rfl dX2_copyFrom_79
    · refine v_aload_n (i := 0) hc 0 rfl dX2_copyFrom_24 rfl ?_
      refine v_getV hc kX2 0 (by decide) w_169 rfl dX2_copyFrom_25 (gR rfl fun x25 => ?_)
      refine v_alen hc dX2_copyFrom_28 fun x28 => ?_
      refine v_aload_n (i := 1) hc 1 rfl dX2_copyFrom_29 rfl ?_
      refine v_getV hc kX2 0 (by decide) w_169 rfl dX2_copyFrom_30 (gR rfl fun x30 => ?_)
      refine v_alen hc dX2_copyFrom_33 fun x33 => ?_
      refine v_icmp_ne hc 79 dX2_copyFrom_34 rfl ?_ ?_
      · exact v_vret hc hq (Nat.le_of_ble_eq_true rfl) (Nat.le_of_ble_eq_true rfl) rfl dX2_copyFrom_79
      · refine v_aload_n (i := 1) hc 1 rfl dX2_copyFrom_37 rfl ?_
        refine v_getV hc kX2 0 (by decide) w_169 rfl dX2_copyFrom_38 (gR rfl fun x38 => ?_)
        refine v_iconst (x := (0 : Int32)) hc dX2_copyFrom_41 zi_0 ?_
        refine v_aload_n (i := 0) hc 0 rfl dX2_copyFrom_42 rfl ?_
        refine v_getV hc kX2 0 (by decide) w_169 rfl dX2_copyFrom_43 (gR rfl fun x43 => ?_)
        refine v_iconst (x := (0 : Int32)) hc dX2_copyFrom_46 zi_0 ?_
        refine v_aload_n (i := 1) hc 1 rfl dX2_copyFrom_47 rfl ?_
        refine v_getV hc kX2 2 (by decide) w_171 rfl dX2_copyFrom_48 (gI rfl fun x48 => ?_)
        refine v_copy hc hr w_460 w_462 w_461 w_119 (Nat.le_of_ble_eq_true rfl) (by decide +kernel) dX2_copyFrom_51 fun h51 => ?_
        refine v_aload_n (i := 1) hc 1 rfl dX2_copyFrom_54 rfl ?_
        refine v_getV hc kX2 1 (by decide) w_170 rfl dX2_copyFrom_55 (gR rfl fun x55 => ?_)
        refine v_iconst (x := (0 : Int32)) hc dX2_copyFrom_58 zi_0 ?_
        refine v_aload_n (i := 0) hc 0 rfl dX2_copyFrom_59 rfl ?_
        refine v_getV hc kX2 1 (by decide) w_170 rfl dX2_copyFrom_60 (gR rfl fun x60 => ?_)
        refine v_iconst (x := (0 : Int32)) hc dX2_copyFrom_63 zi_0 ?_
        refine v_aload_n (i := 1) hc 1 rfl dX2_copyFrom_64 rfl ?_
        refine v_getV hc kX2 2 (by decide) w_171 rfl dX2_copyFrom_65 (gI rfl fun x65 => ?_)
        refine v_copy hc hr w_460 w_462 w_461 w_119 (Nat.le_of_ble_eq_true rfl) (by decide +kernel) dX2_copyFrom_68 fun h68 => ?_
        refine v_aload_n (i := 0) hc 0 rfl dX2_copyFrom_71 rfl ?_
        refine v_aload_n (i := 1) hc 1 rfl dX2_copyFrom_72 rfl ?_
        refine v_getV hc kX2 2 (by decide) w_171 rfl dX2_copyFrom_73 (gI rfl fun x73 => ?_)
        refine v_put hc kX2 2 (by decide) w_171 rfl rfl dX2_copyFrom_76 ⟨rfl, rfl⟩ fun h76 => ?_
        exact v_vret hc hq (Nat.le_of_ble_eq_true rfl) (Nat.le_of_ble_eq_true rfl) rfl dX2_copyFrom_79
theorem s2_copyFrom : YV yX2_copyFrom RX2 cX2_copyFrom 2 none 1 := ⟨w_1120, w_1118, w_1119, w_112, rfl, by decide +kernel, by decide +kernel, by decide +kernel⟩
