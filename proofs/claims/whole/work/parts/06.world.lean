def f7_init (h : AH) (this : Nat) : Option (AH) := (hObj 7 h this).bind fun _ => (fS 7 0 h this (.int (0 : Int32))).bind fun h6 => (nO 5 [.null, .int 0, .int 0, .int 0] h6).bind fun y10 => (f5_init y10.2 y10.1 (10 : Int32) (2 : Int32)).bind fun x17 => (fS 7 1 x17 this (.ref y10.1)).bind fun h20 => (nO 2 [.null, .null, .int 0] h20).bind fun y24 => (f2_init y24.2 y24.1 (200 : Int32)).bind fun x31 => (fS 7 2 x31 this (.ref y24.1)).bind fun h34 => (nO 2 [.null, .null, .int 0] h34).bind fun y38 => (f2_init y38.2 y38.1 (300 : Int32)).bind fun x45 => (fS 7 3 x45 this (.ref y38.1)).bind fun h48 => (nO 5 [.null, .int 0, .int 0, .int 0] h48).bind fun y52 => (f5_init y52.2 y52.1 (90 : Int32) (10 : Int32)).bind fun x60 => (fS 7 4 x60 this (.ref y52.1)).bind fun h63 => (nO 2 [.null, .null, .int 0] h63).bind fun y67 => (f2_init y67.2 y67.1 (400 : Int32)).bind fun x74 => (fS 7 5 x74 this (.ref y67.1)).bind fun h77 => (nO 5 [.null, .int 0, .int 0, .int 0] h77).bind fun y81 => (f5_init y81.2 y81.1 (200 : Int32) (4 : Int32)).bind fun x89 => (fS 7 6 x89 this (.ref y81.1)).bind fun h92 => (nO 5 [.null, .int 0, .int 0, .int 0] h92).bind fun y96 => (f5_init y96.2 y96.1 (200 : Int32) (3 : Int32)).bind fun x104 => (fS 7 7 x104 this (.ref y96.1)).bind fun h107 => (nO 5 [.null, .int 0, .int 0, .int 0] h107).bind fun y111 => (f5_init y111.2 y111.1 (8 : Int32) (5 : Int32)).bind fun x118 => (fS 7 8 x118 this (.ref y111.1)).bind fun h121 => some h121
theorem ob7_init {h : AH} {this : Nat} {x : AH} (e : f7_init h this = some x) : ∃ fs, hObj 7 h this = some fs := by
  unfold f7_init at e
  obtain ⟨fs, h1, -⟩ := bd e
  exact ⟨fs, h1⟩
set_option maxRecDepth 100000 in
theorem ct7_init (l : Launch) (D : va_G) (tys : Tys) (base : Nat) (h : AH) (this : Nat) : Ct l D tys base yX7_init cX7_init 1 none 2 62 19 6929 [.ref this] h (wV) (f7_init h this) := by
  refine Ct.intro (own := RX7) (L := [(0, .ref this)]) rfl (by decide) rfl (Nat.le_of_ble_eq_true rfl) fun κ hc hr hq hi hL => ?_
  have hin : IN κ := hi rfl
  have hn : ∀ i, i < 1 → i < κ.2.2.2.2.1 := fun i q => hL ▸ q
  unfold f7_init
  refine v_obj ?_
  refine v_aload_n (i := 0) hc 0 rfl dX7_init_0 rfl ?_
  refine v_objI hc hr (Nat.le_of_ble_eq_true rfl) (Nat.le_of_ble_eq_true rfl) (Nat.le_of_ble_eq_true rfl) (Nat.le_of_ble_eq_true rfl) w_138 w_131 w_132 dX7_init_1 ?_
  refine v_aload_n (i := 0) hc 0 rfl dX7_init_4 rfl ?_
  refine v_iconst (x := (0 : Int32)) hc dX7_init_5 zi_0 ?_
  refine v_put hc kX7 0 (by decide) w_179 rfl rfl dX7_init_6 ⟨rfl, rfl⟩ fun h6 => ?_
  refine v_aload_n (i := 0) hc 0 rfl dX7_init_9 rfl ?_
  refine v_new hc hr kX5 w_139 w_140 w_110 (by decide +kernel) (Nat.le_of_ble_eq_true rfl) (Nat.le_of_ble_eq_true rfl) dX7_init_10 fun y10 => ?_
  refine v_dup hc dX7_init_13 rfl ?_
  refine v_bipush (x := (10 : Int32)) hc dX7_init_14 zb_10 ?_
  refine v_iconst (x := (2 : Int32)) hc dX7_init_16 zi_2 ?_
  refine v_cV hc (m_I' (As := [.int (10 : Int32), .int (2 : Int32)]) (b := y10.1) (rest := [.ref y10.1, .ref this]) 2 hc hr (fun l D tys base => ct5_init l D tys base y10.2 y10.1 (10 : Int32) (2 : Int32)) s5_init w_141 rfl ⟨Nat.le_of_ble_eq_true rfl, Nat.le_of_ble_eq_true rfl⟩ ⟨Nat.le_of_ble_eq_true rfl, Nat.le_of_ble_eq_true rfl⟩ (Nat.le_of_ble_eq_true rfl) dX7_init_17) fun x17 => ?_
  refine v_putF hc hin kX7 1 (by decide) w_181 rfl rfl rfl dX7_init_20 ⟨rfl, rfl⟩ fun h20 => ?_
  refine v_aload_n (i := 0) hc 0 rfl dX7_init_23 rfl ?_
  refine v_new hc hr kX2 w_162 w_163 w_112 (by decide +kernel) (Nat.le_of_ble_eq_true rfl) (Nat.le_of_ble_eq_true rfl) dX7_init_24 fun y24 => ?_
  refine v_dup hc dX7_init_27 rfl ?_
  refine v_sipush (x := (200 : Int32)) hc dX7_init_28 zs_200 ?_
  refine v_cV hc (m_I' (As := [.int (200 : Int32)]) (b := y24.1) (rest := [.ref y24.1, .ref this]) 1 hc hr (fun l D tys base => ct2_init l D tys base y24.2 y24.1 (200 : Int32)) s2_init w_164 rfl ⟨Nat.le_of_ble_eq_true rfl, Nat.le_of_ble_eq_true rfl⟩ ⟨Nat.le_of_ble_eq_true rfl, Nat.le_of_ble_eq_true rfl⟩ (Nat.le_of_ble_eq_true rfl) dX7_init_31) fun x31 => ?_
  refine v_putF hc hin kX7 2 (by decide) w_183 rfl rfl rfl dX7_init_34 ⟨rfl, rfl⟩ fun h34 => ?_
  refine v_aload_n (i := 0) hc 0 rfl dX7_init_37 rfl ?_
  refine v_new hc hr kX2 w_162 w_163 w_112 (by decide +kernel) (Nat.le_of_ble_eq_true rfl) (Nat.le_of_ble_eq_true rfl) dX7_init_38 fun y38 => ?_
  refine v_dup hc dX7_init_41 rfl ?_
  refine v_sipush (x := (300 : Int32)) hc dX7_init_42 zs_300 ?_
  refine v_cV hc (m_I' (As := [.int (300 : Int32)]) (b := y38.1) (rest := [.ref y38.1, .ref this]) 1 hc hr (fun l D tys base => ct2_init l D tys base y38.2 y38.1 (300 : Int32)) s2_init w_164 rfl ⟨Nat.le_of_ble_eq_true rfl, Nat.le_of_ble_eq_true rfl⟩ ⟨Nat.le_of_ble_eq_true rfl, Nat.le_of_ble_eq_true rfl⟩ (Nat.le_of_ble_eq_true rfl) dX7_init_45) fun x45 => ?_
  refine v_putF hc hin kX7 3 (by decide) w_186 rfl rfl rfl dX7_init_48 ⟨rfl, rfl⟩ fun h48 => ?_
  refine v_aload_n (i := 0) hc 0 rfl dX7_init_51 rfl ?_
  refine v_new hc hr kX5 w_139 w_140 w_110 (by decide +kernel) (Nat.le_of_ble_eq_true rfl) (Nat.le_of_ble_eq_true rfl) dX7_init_52 fun y52 => ?_
  refine v_dup hc dX7_init_55 rfl ?_
  refine v_bipush (x := (90 : Int32)) hc dX7_init_56 zb_90 ?_
  refine v_bipush (x := (10 : Int32)) hc dX7_init_58 zb_10 ?_
  refine v_cV hc (m_I' (As := [.int (90 : Int32), .int (10 : Int32)]) (b := y52.1) (rest := [.ref y52.1, .ref this]) 2 hc hr (fun l D tys base => ct5_init l D tys base y52.2 y52.1 (90 : Int32) (10 : Int32)) s5_init w_141 rfl ⟨Nat.le_of_ble_eq_true rfl, Nat.le_of_ble_eq_true rfl⟩ ⟨Nat.le_of_ble_eq_true rfl, Nat.le_of_ble_eq_true rfl⟩ (Nat.le_of_ble_eq_true rfl) dX7_init_60) fun x60 => ?_
  refine v_putF hc hin kX7 4 (by decide) w_189 rfl rfl rfl dX7_init_63 ⟨rfl, rfl⟩ fun h63 => ?_
  refine v_aload_n (i := 0) hc 0 rfl dX7_init_66 rfl ?_
  refine v_new hc hr kX2 w_162 w_163 w_112 (by decide +kernel) (Nat.le_of_ble_eq_true rfl) (Nat.le_of_ble_eq_true rfl) dX7_init_67 fun y67 => ?_
  refine v_dup hc dX7_init_70 rfl ?_
  refine v_sipush (x := (400 : Int32)) hc dX7_init_71 zs_400 ?_
  refine v_cV hc (m_I' (As := [.int (400 : Int32)]) (b := y67.1) (rest := [.ref y67.1, .ref this]) 1 hc hr (fun l D tys base => ct2_init l D tys base y67.2 y67.1 (400 : Int32)) s2_init w_164 rfl ⟨Nat.le_of_ble_eq_true rfl, Nat.le_of_ble_eq_true rfl⟩ ⟨Nat.le_of_ble_eq_true rfl, Nat.le_of_ble_eq_true rfl⟩ (Nat.le_of_ble_eq_true rfl) dX7_init_74) fun x74 => ?_
  refine v_putF hc hin kX7 5 (by decide) w_192 rfl rfl rfl dX7_init_77 ⟨rfl, rfl⟩ fun h77 => ?_
  refine v_aload_n (i := 0) hc 0 rfl dX7_init_80 rfl ?_
  refine v_new hc hr kX5 w_139 w_140 w_110 (by decide +kernel) (Nat.le_of_ble_eq_true rfl) (Nat.le_of_ble_eq_true rfl) dX7_init_81 fun y81 => ?_
  refine v_dup hc dX7_init_84 rfl ?_
  refine v_sipush (x := (200 : Int32)) hc dX7_init_85 zs_200 ?_
  refine v_iconst (x := (4 : Int32)) hc dX7_init_88 zi_4 ?_
  refine v_cV hc (m_I' (As := [.int (200 : Int32), .int (4 : Int32)]) (b := y81.1) (rest := [.ref y81.1, .ref this]) 2 hc hr (fun l D tys base => ct5_init l D tys base y81.2 y81.1 (200 : Int32) (4 : Int32)) s5_init w_141 rfl ⟨Nat.le_of_ble_eq_true rfl, Nat.le_of_ble_eq_true rfl⟩ ⟨Nat.le_of_ble_eq_true rfl, Nat.le_of_ble_eq_true rfl⟩ (Nat.le_of_ble_eq_true rfl) dX7_init_89) fun x89 => ?_
  refine v_putF hc hin kX7 6 (by decide) w_195 rfl rfl rfl dX7_init_92 ⟨rfl, rfl⟩ fun h92 => ?_
  refine v_aload_n (i := 0) hc 0 rfl dX7_init_95 rfl ?_
  refine v_new hc hr kX5 w_139 w_140 w_110 (by decide +kernel) (Nat.le_of_ble_eq_true rfl) (Nat.le_of_ble_eq_true rfl) dX7_init_96 fun y96 => ?_
  refine v_dup hc dX7_init_99 rfl ?_
  refine v_sipush (x := (200 : Int32)) hc dX7_init_100 zs_200 ?_
  refine v_iconst (x := (3 : Int32)) hc dX7_init_103 zi_3 ?_
  refine v_cV hc (m_I' (As := [.int (200 : Int32), .int (3 : Int32)]) (b := y96.1) (rest := [.ref y96.1, .ref this]) 2 hc hr (fun l D tys base => ct5_init l D tys base y96.2 y96.1 (200 : Int32) (3 : Int32)) s5_init w_141 rfl ⟨Nat.le_of_ble_eq_true rfl, Nat.le_of_ble_eq_true rfl⟩ ⟨Nat.le_of_ble_eq_true rfl, Nat.le_of_ble_eq_true rfl⟩ (Nat.le_of_ble_eq_true rfl) dX7_init_104) fun x104 => ?_
  refine v_putF hc hin kX7 7 (by decide) w_197 rfl rfl rfl dX7_init_107 ⟨rfl, rfl⟩ fun h107 => ?_
  refine v_aload_n (i := 0) hc 0 rfl dX7_init_110 rfl ?_
  refine v_new hc hr kX5 w_139 w_140 w_110 (by decide +kernel) (Nat.le_of_ble_eq_true rfl) (Nat.le_of_ble_eq_true rfl) dX7_init_111 fun y111 => ?_
  refine v_dup hc dX7_init_114 rfl ?_
  refine v_bipush (x := (8 : Int32)) hc dX7_init_115 zb_8 ?_
  refine v_iconst (x := (5 : Int32)) hc dX7_init_117 zi_5 ?_
  refine v_cV hc (m_I' (As := [.int (8 : Int32), .int (5 : Int32)]) (b := y111.1) (rest := [.ref y111.1, .ref this]) 2 hc hr (fun l D tys base => ct5_init l D tys base y111.2 y111.1 (8 : Int32) (5 : Int32)) s5_init w_141 rfl ⟨Nat.le_of_ble_eq_true rfl, Nat.le_of_ble_eq_true rfl⟩ ⟨Nat.le_of_ble_eq_true rfl, Nat.le_of_ble_eq_true rfl⟩ (Nat.le_of_ble_eq_true rfl) dX7_init_118) fun x118 => ?_
  refine v_putF hc hin kX7 8 (by decide) w_199 rfl rfl rfl dX7_init_121 ⟨rfl, rfl⟩ fun h121 => ?_
  exact v_vret hc hq (Nat.le_of_ble_eq_true rfl) (Nat.le_of_ble_eq_true rfl) rfl dX7_init_124
theorem s7_init : YI yX7_init cX7_init 1 0 := ⟨w_137, w_136, w_109, rfl, by decide +kernel, by decide +kernel, by decide +kernel⟩
def f7_pagesEnd (h : AH) (this : Nat) (p0 : Int32) : Option (Int32) := (hObj 7 h this).bind fun _ => (fR 7 5 h this).bind fun x1 => (f2_firstFrom h x1 ((p0 + (1 : Int32)) * (10000 : Int32))).bind fun x11 => some x11
theorem ob7_pagesEnd {h : AH} {this : Nat} {p0 : Int32} {x : Int32} (e : f7_pagesEnd h this p0 = some x) : ∃ fs, hObj 7 h this = some fs := by
  unfold f7_pagesEnd at e
  obtain ⟨fs, h1, -⟩ := bd e
  exact ⟨fs, h1⟩
set_option maxRecDepth 100000 in
theorem ct7_pagesEnd (l : Launch) (D : va_G) (tys : Tys) (base : Nat) (h : AH) (this : Nat) (p0 : Int32) : Ct l D tys base yX7_pagesEnd cX7_pagesEnd 2 (some .int) 2 64 0 0 [.ref this, .int p0] h (rI h) (f7_pagesEnd h this p0) := by
  refine Ct.intro (own := RX7) (L := [(0, .ref this), (1, .int p0)]) rfl (by decide) rfl (Nat.le_of_ble_eq_true rfl) fun κ hc hr hq hi hL => ?_
  have hn : ∀ i, i < 2 → i < κ.2.2.2.2.1 := fun i q => hL ▸ q
  unfold f7_pagesEnd
  refine v_obj ?_
  refine v_aload_n (i := 0) hc 0 rfl dX7_pagesEnd_0 rfl ?_
  refine v_getV hc kX7 5 (by decide) w_192 rfl dX7_pagesEnd_1 (gR rfl fun x1 => ?_)
  refine v_iload_n (i := 1) hc 1 rfl dX7_pagesEnd_4 rfl ?_
  refine v_iconst (x := (1 : Int32)) hc dX7_pagesEnd_5 zi_1 ?_
  refine v_iadd hc dX7_pagesEnd_6 ?_
  refine v_sipush (x := (10000 : Int32)) hc dX7_pagesEnd_7 zs_10000 ?_
  refine v_imul hc dX7_pagesEnd_10 ?_
  refine v_cI hc (m_V' (As := [.int ((p0 + (1 : Int32)) * (10000 : Int32))]) (b := x1) (rest := []) 1 hc hr (fun l D tys base => ct2_firstFrom l D tys base h x1 ((p0 + (1 : Int32)) * (10000 : Int32))) (fun x hx => ob2_firstFrom hx) rfl s2_firstFrom w_495 rfl ⟨Nat.le_of_ble_eq_true rfl, Nat.le_of_ble_eq_true rfl⟩ ⟨Nat.le_of_ble_eq_true rfl, Nat.le_of_ble_eq_true rfl⟩ (Nat.le_of_ble_eq_true rfl) dX7_pagesEnd_11) fun x11 => ?_
  exact v_iret hc hq rfl rfl (Nat.le_of_ble_eq_true rfl) (Nat.le_of_ble_eq_true rfl) rfl dX7_pagesEnd_14
theorem s7_pagesEnd : YV yX7_pagesEnd RX7 cX7_pagesEnd 2 (some .int) 1 := ⟨w_494, w_492, w_493, w_109, rfl, by decide +kernel, by decide +kernel, by decide +kernel⟩
def f7_firstPage (h : AH) (this : Nat) (p0 : Int32) : Option (Int32) := (hObj 7 h this).bind fun _ => (fR 7 5 h this).bind fun x1 => (f2_firstFrom h x1 (p0 * (10000 : Int32))).bind fun x9 => some x9
theorem ob7_firstPage {h : AH} {this : Nat} {p0 : Int32} {x : Int32} (e : f7_firstPage h this p0 = some x) : ∃ fs, hObj 7 h this = some fs := by
  unfold f7_firstPage at e
  obtain ⟨fs, h1, -⟩ := bd e
  exact ⟨fs, h1⟩
set_option maxRecDepth 100000 in
theorem ct7_firstPage (l : Launch) (D : va_G) (tys : Tys) (base : Nat) (h : AH) (this : Nat) (p0 : Int32) : Ct l D tys base yX7_firstPage cX7_firstPage 2 (some .int) 2 64 0 0 [.ref this, .int p0] h (rI h) (f7_firstPage h this p0) := by
  refine Ct.intro (own := RX7) (L := [(0, .ref this), (1, .int p0)]) rfl (by decide) rfl (Nat.le_of_ble_eq_true rfl) fun κ hc hr hq hi hL => ?_
  have hn : ∀ i, i < 2 → i < κ.2.2.2.2.1 := fun i q => hL ▸ q
  unfold f7_firstPage
  refine v_obj ?_
  refine v_aload_n (i := 0) hc 0 rfl dX7_firstPage_0 rfl ?_
  refine v_getV hc kX7 5 (by decide) w_192 rfl dX7_firstPage_1 (gR rfl fun x1 => ?_)
  refine v_iload_n (i := 1) hc 1 rfl dX7_firstPage_4 rfl ?_
  refine v_sipush (x := (10000 : Int32)) hc dX7_firstPage_5 zs_10000 ?_
  refine v_imul hc dX7_firstPage_8 ?_
  refine v_cI hc (m_V' (As := [.int (p0 * (10000 : Int32))]) (b := x1) (rest := []) 1 hc hr (fun l D tys base => ct2_firstFrom l D tys base h x1 (p0 * (10000 : Int32))) (fun x hx => ob2_firstFrom hx) rfl s2_firstFrom w_495 rfl ⟨Nat.le_of_ble_eq_true rfl, Nat.le_of_ble_eq_true rfl⟩ ⟨Nat.le_of_ble_eq_true rfl, Nat.le_of_ble_eq_true rfl⟩ (Nat.le_of_ble_eq_true rfl) dX7_firstPage_9) fun x9 => ?_
  exact v_iret hc hq rfl rfl (Nat.le_of_ble_eq_true rfl) (Nat.le_of_ble_eq_true rfl) rfl dX7_firstPage_12
theorem s7_firstPage : YV yX7_firstPage RX7 cX7_firstPage 2 (some .int) 1 := ⟨w_499, w_497, w_498, w_109, rfl, by decide +kernel, by decide +kernel, by decide +kernel⟩
def f7_pagesOf (h : AH) (this : Nat) (p0 : Int32) : Option (Int32) := (hObj 7 h this).bind fun _ => (f7_pagesEnd h this p0).bind fun x2 => (f7_firstPage h this p0).bind fun x7 => some (x2 - x7)
theorem ob7_pagesOf {h : AH} {this : Nat} {p0 : Int32} {x : Int32} (e : f7_pagesOf h this p0 = some x) : ∃ fs, hObj 7 h this = some fs := by
  unfold f7_pagesOf at e
  obtain ⟨fs, h1, -⟩ := bd e
  exact ⟨fs, h1⟩
set_option maxRecDepth 100000 in
theorem ct7_pagesOf (l : Launch) (D : va_G) (tys : Tys) (base : Nat) (h : AH) (this : Nat) (p0 : Int32) : Ct l D tys base yX7_pagesOf cX7_pagesOf 2 (some .int) 3 85 0 0 [.ref this, .int p0] h (rI h) (f7_pagesOf h this p0) := by
  refine Ct.intro (own := RX7) (L := [(0, .ref this), (1, .int p0)]) rfl (by decide) rfl (Nat.le_of_ble_eq_true rfl) fun κ hc hr hq hi hL => ?_
  have hn : ∀ i, i < 2 → i < κ.2.2.2.2.1 := fun i q => hL ▸ q
  unfold f7_pagesOf
  refine v_obj ?_
  refine v_aload_n (i := 0) hc 0 rfl dX7_pagesOf_0 rfl ?_
  refine v_iload_n (i := 1) hc 1 rfl dX7_pagesOf_1 rfl ?_
  refine v_cI hc (m_V' (As := [.int p0]) (b := this) (rest := []) 1 hc hr (fun l D tys base => ct7_pagesEnd l D tys base h this p0) (fun x hx => ob7_pagesEnd hx) rfl s7_pagesEnd w_491 rfl ⟨Nat.le_of_ble_eq_true rfl, Nat.le_of_ble_eq_true rfl⟩ ⟨Nat.le_of_ble_eq_true rfl, Nat.le_of_ble_eq_true rfl⟩ (Nat.le_of_ble_eq_true rfl) dX7_pagesOf_2) fun x2 => ?_
  refine v_aload_n (i := 0) hc 0 rfl dX7_pagesOf_5 rfl ?_
  refine v_iload_n (i := 1) hc 1 rfl dX7_pagesOf_6 rfl ?_
  refine v_cI hc (m_V' (As := [.int p0]) (b := this) (rest := [.int x2]) 1 hc hr (fun l D tys base => ct7_firstPage l D tys base h this p0) (fun x hx => ob7_firstPage hx) rfl s7_firstPage w_496 rfl ⟨Nat.le_of_ble_eq_true rfl, Nat.le_of_ble_eq_true rfl⟩ ⟨Nat.le_of_ble_eq_true rfl, Nat.le_of_ble_eq_true rfl⟩ (Nat.le_of_ble_eq_true rfl) dX7_pagesOf_7) fun x7 => ?_
  refine v_isub hc dX7_pagesOf_10 ?_
  exact v_iret hc hq rfl rfl (Nat.le_of_ble_eq_true rfl) (Nat.le_of_ble_eq_true rfl) rfl dX7_pagesOf_11
theorem s7_pagesOf : YV yX7_pagesOf RX7 cX7_pagesOf 2 (some .int) 1 := ⟨w_490, w_488, w_489, w_109, rfl, by decide +kernel, by decide +kernel, by decide +kernel⟩
def f7_dayOfPage (h : AH) (this : Nat) (p0 : Int32) : Option (Int32) := (hObj 7 h this).bind fun _ => (fR 7 5 h this).bind fun x1 => (f2_keyAt h x1 p0).bind fun x5 => if (10000 : Int32) = 0 then none else (some (x5 - x5 / (10000 : Int32) * (10000 : Int32))).bind fun z11 => some z11
theorem ob7_dayOfPage {h : AH} {this : Nat} {p0 : Int32} {x : Int32} (e : f7_dayOfPage h this p0 = some x) : ∃ fs, hObj 7 h this = some fs := by
  unfold f7_dayOfPage at e
  obtain ⟨fs, h1, -⟩ := bd e
  exact ⟨fs, h1⟩
set_option maxRecDepth 100000 in
theorem ct7_dayOfPage (l : Launch) (D : va_G) (tys : Tys) (base : Nat) (h : AH) (this : Nat) (p0 : Int32) : Ct l D tys base yX7_dayOfPage cX7_dayOfPage 2 (some .int) 1 21 0 0 [.ref this, .int p0] h (rI h) (f7_dayOfPage h this p0) := by
  refine Ct.intro (own := RX7) (L := [(0, .ref this), (1, .int p0)]) rfl (by decide) rfl (Nat.le_of_ble_eq_true rfl) fun κ hc hr hq hi hL => ?_
  have hn : ∀ i, i < 2 → i < κ.2.2.2.2.1 := fun i q => hL ▸ q
  unfold f7_dayOfPage
  refine v_obj ?_
  refine v_aload_n (i := 0) hc 0 rfl dX7_dayOfPage_0 rfl ?_
  refine v_getV hc kX7 5 (by decide) w_192 rfl dX7_dayOfPage_1 (gR rfl fun x1 => ?_)
  refine v_iload_n (i := 1) hc 1 rfl dX7_dayOfPage_4 rfl ?_
  refine v_cI hc (m_V' (As := [.int p0]) (b := x1) (rest := []) 1 hc hr (fun l D tys base => ct2_keyAt l D tys base h x1 p0) (fun x hx => ob2_keyAt hx) rfl s2_keyAt w_512 rfl ⟨Nat.le_of_ble_eq_true rfl, Nat.le_of_ble_eq_true rfl⟩ ⟨Nat.le_of_ble_eq_true rfl, Nat.le_of_ble_eq_true rfl⟩ (Nat.le_of_ble_eq_true rfl) dX7_dayOfPage_5) fun x5 => ?_
  refine v_sipush (x := (10000 : Int32)) hc dX7_dayOfPage_8 zs_10000 ?_
  refine v_iremN hc dX7_dayOfPage_11 fun z11 => ?_
  exact v_iret hc hq rfl rfl (Nat.le_of_ble_eq_true rfl) (Nat.le_of_ble_eq_true rfl) rfl dX7_dayOfPage_12
theorem s7_dayOfPage : YV yX7_dayOfPage RX7 cX7_dayOfPage 2 (some .int) 1 := ⟨w_511, w_509, w_510, w_109, rfl, by decide +kernel, by decide +kernel, by decide +kernel⟩
def f7_isWrong (h : AH) (this : Nat) (p0 : Int32) : Option (Bool) := (hObj 7 h this).bind fun _ => (fR 7 2 h this).bind fun x1 => (f7_dayOfPage h this p0).bind fun x6 => (f2_placeOf h x1 x6).bind fun x9 => (if x9 = (-1 : Int32) then some false else (fR 7 5 h this).bind fun x20 => (f2_placeAt h x20 p0).bind fun x24 => (if x9 = x24 then some false else some true))
theorem ob7_isWrong {h : AH} {this : Nat} {p0 : Int32} {x : Bool} (e : f7_isWrong h this p0 = some x) : ∃ fs, hObj 7 h this = some fs := by
  unfold f7_isWrong at e
  obtain ⟨fs, h1, -⟩ := bd e
  exact ⟨fs, h1⟩
set_option maxRecDepth 100000 in
theorem ct7_isWrong (l : Launch) (D : va_G) (tys : Tys) (base : Nat) (h : AH) (this : Nat) (p0 : Int32) : Ct l D tys base yX7_isWrong cX7_isWrong 3 (some .boolean) 3 86 0 0 [.ref this, .int p0] h (rB h) (f7_isWrong h this p0) := by
  refine Ct.intro (own := RX7) (L := [(0, .ref this), (1, .int p0)]) rfl (by decide) rfl (Nat.le_of_ble_eq_true rfl) fun κ hc hr hq hi hL => ?_
  have hn : ∀ i, i < 3 → i < κ.2.2.2.2.1 := fun i q => hL ▸ q
  unfold f7_isWrong
  refine v_obj ?_
  refine v_aload_n (i := 0) hc 0 rfl dX7_isWrong_0 rfl ?_
  refine v_getV hc kX7 2 (by decide) w_183 rfl dX7_isWrong_1 (gR rfl fun x1 => ?_)
  refine v_aload_n (i := 0) hc 0 rfl dX7_isWrong_4 rfl ?_
  refine v_iload_n (i := 1) hc 1 rfl dX7_isWrong_5 rfl ?_
  refine v_cI hc (m_V' (As := [.int p0]) (b := this) (rest := [.ref x1]) 1 hc hr (fun l D tys base => ct7_dayOfPage l D tys base h this p0) (fun x hx => ob7_dayOfPage hx) rfl s7_dayOfPage w_508 rfl ⟨Nat.le_of_ble_eq_true rfl, Nat.le_of_ble_eq_true rfl⟩ ⟨Nat.le_of_ble_eq_true rfl, Nat.le_of_ble_eq_true rfl⟩ (Nat.le_of_ble_eq_true rfl) dX7_isWrong_6) fun x6 => ?_
  refine v_cI hc (m_V' (As := [.int x6]) (b := x1) (rest := []) 1 hc hr (fun l D tys base => ct2_placeOf l D tys base h x1 x6) (fun x hx => ob2_placeOf hx) rfl s2_placeOf w_513 rfl ⟨Nat.le_of_ble_eq_true rfl, Nat.le_of_ble_eq_true rfl⟩ ⟨Nat.le_of_ble_eq_true rfl, Nat.le_of_ble_eq_true rfl⟩ (Nat.le_of_ble_eq_true rfl) dX7_isWrong_9) fun x9 => ?_
  refine v_istore_n (i := 2) (L' := [(2, .int x9), (0, .ref this), (1, .int p0)]) hc dX7_isWrong_12 rfl (hn 2 (Nat.le_of_ble_eq_true rfl)) rfl ?_
  refine v_iload_n (i := 2) hc 0 rfl dX7_isWrong_13 rfl ?_
  refine v_iconst (x := (-1 : Int32)) hc dX7_isWrong_14 zi_m1 ?_
  refine v_icmp_eq hc 34 dX7_isWrong_15 rfl ?_ ?_
  · refine v_iconst (x := (0 : Int32)) hc dX7_isWrong_34 zi_0 ?_
    exact v_iret (v := bI false) hc hq rfl (nar_b false) (Nat.le_of_ble_eq_true rfl) (Nat.le_of_ble_eq_true rfl) rfl dX7_isWrong_35
  · refine v_iload_n (i := 2) hc 0 rfl dX7_isWrong_18 rfl ?_
    refine v_aload_n (i := 0) hc 1 rfl dX7_isWrong_19 rfl ?_
    refine v_getV hc kX7 5 (by decide) w_192 rfl dX7_isWrong_20 (gR rfl fun x20 => ?_)
    refine v_iload_n (i := 1) hc 2 rfl dX7_isWrong_23 rfl ?_
    refine v_cI hc (m_V' (As := [.int p0]) (b := x20) (rest := [.int x9]) 1 hc hr (fun l D tys base => ct2_placeAt l D tys base h x20 p0) (fun x hx => ob2_placeAt hx) rfl s2_placeAt w_521 rfl ⟨Nat.le_of_ble_eq_true rfl, Nat.le_of_ble_eq_true rfl⟩ ⟨Nat.le_of_ble_eq_true rfl, Nat.le_of_ble_eq_true rfl⟩ (Nat.le_of_ble_eq_true rfl) dX7_isWrong_24) fun x24 => ?_
    refine v_icmp_eq hc 34 dX7_isWrong_27 rfl ?_ ?_
    · refine v_iconst (x := (0 : Int32)) hc dX7_isWrong_34 zi_0 ?_
      exact v_iret (v := bI false) hc hq rfl (nar_b false) (Nat.le_of_ble_eq_true rfl) (Nat.le_of_ble_eq_true rfl) rfl dX7_isWrong_35
    · refine v_iconst (x := (1 : Int32)) hc dX7_isWrong_30 zi_1 ?_
      refine v_goto hc 35 dX7_isWrong_31 rfl ?_
      exact v_iret (v := bI true) hc hq rfl (nar_b true) (Nat.le_of_ble_eq_true rfl) (Nat.le_of_ble_eq_true rfl) rfl dX7_isWrong_35
theorem s7_isWrong : YV yX7_isWrong RX7 cX7_isWrong 3 (some .boolean) 1 := ⟨w_507, w_506, w_1, w_109, rfl, by decide +kernel, by decide +kernel, by decide +kernel⟩
def f7_wrongPages_15 (h : AH) (v0 : Nat) (v3 : Int32) : Nat → Int32 → Int32 → Option (Int32)
  | 0, _, _ => none
  | n + 1, v2, v4 => (if v3 ≤ v4 then some v2 else (f7_isWrong h v0 v4).bind fun x24 => (if x24 = true then (some (v2 + (1 : Int32))).bind fun x30 => (some (v4 + (1 : Int32))).bind fun x33 => f7_wrongPages_15 h v0 v3 n x30 x33 else (some (v4 + (1 : Int32))).bind fun x33 => f7_wrongPages_15 h v0 v3 n v2 x33))
set_option maxRecDepth 100000 in
theorem vl7_wrongPages_15 {κ : Kx} (hc : CX κ RX7 cX7_wrongPages) (hr : RX κ ({ frames := 4, cells := 0, slots := 0, locals := 108 } : Room)) (hq : QX κ (some .int) 0 0) (hL : 5 = κ.2.2.2.2.1)  (h : AH) (v0 : Nat) (v3 : Int32) : ∀ n (v2 : Int32) (v4 : Int32), V κ (rI h) 0 0 15 [(0, .ref v0), (2, .int v2), (3, .int v3), (4, .int v4)] [] h (f7_wrongPages_15 h v0 v3 n v2 v4) := by
  have hn : ∀ i, i < 5 → i < κ.2.2.2.2.1 := fun i q => hL ▸ q
  intro n
  induction n with
  | zero => intros; exact v_none
  | succ n ih =>
    intro v2 v4
    rw [f7_wrongPages_15.eq_2]
    refine v_iload (i := 4) hc 3 rfl dX7_wrongPages_15 ?_
    refine v_iload_n (i := 3) hc 2 rfl dX7_wrongPages_17 rfl ?_
    refine v_icmp_ge hc 39 dX7_wrongPages_18 rfl ?_ ?_
    · refine v_iload_n (i := 2) hc 1 rfl dX7_wrongPages_39 rfl ?_
      exact v_iret hc hq rfl rfl (Nat.le_of_ble_eq_true rfl) (Nat.le_of_ble_eq_true rfl) rfl dX7_wrongPages_40
    · refine v_aload_n (i := 0) hc 0 rfl dX7_wrongPages_21 rfl ?_
      refine v_iload (i := 4) hc 3 rfl dX7_wrongPages_22 ?_
      refine v_cB hc (m_V' (As := [.int v4]) (b := v0) (rest := []) 1 hc hr (fun l D tys base => ct7_isWrong l D tys base h v0 v4) (fun x hx => ob7_isWrong hx) rfl s7_isWrong w_504 rfl ⟨Nat.le_of_ble_eq_true rfl, Nat.le_of_ble_eq_true rfl⟩ ⟨Nat.le_of_ble_eq_true rfl, Nat.le_of_ble_eq_true rfl⟩ (Nat.le_of_ble_eq_true rfl) dX7_wrongPages_24) fun x24 => ?_
      refine v_ifb_eq hc 33 dX7_wrongPages_27 rfl ?_ ?_
      · refine v_iincN (i := 4) (y := (1 : Int32)) (L' := fun z => [(4, .int z), (0, .ref v0), (2, .int v2), (3, .int v3)]) hc 3 rfl dX7_wrongPages_33 zi_1 (hn 4 (Nat.le_of_ble_eq_true rfl)) (fun _ => rfl) fun x33 => ?_
        refine v_goto hc 15 dX7_wrongPages_36 rfl ?_
        refine v_sub (L' := [(0, .ref v0), (2, .int v2), (3, .int v3), (4, .int x33)]) [1, 2, 3, 0] rfl ?_
        exact ih v2 x33
      · refine v_iincN (i := 2) (y := (1 : Int32)) (L' := fun z => [(2, .int z), (0, .ref v0), (3, .int v3), (4, .int v4)]) hc 1 rfl dX7_wrongPages_30 zi_1 (hn 2 (Nat.le_of_ble_eq_true rfl)) (fun _ => rfl) fun x30 => ?_
        refine v_iincN (i := 4) (y := (1 : Int32)) (L' := fun z => [(4, .int z), (2, .int x30), (0, .ref v0), (3, .int v3)]) hc 3 rfl dX7_wrongPages_33 zi_1 (hn 4 (Nat.le_of_ble_eq_true rfl)) (fun _ => rfl) fun x33 => ?_
        refine v_goto hc 15 dX7_wrongPages_36 rfl ?_
        refine v_sub (L' := [(0, .ref v0), (2, .int x30), (3, .int v3), (4, .int x33)]) [2, 1, 3, 0] rfl ?_
        exact ih x30 x33
def f7_wrongPages (h : AH) (this : Nat) (p0 : Int32) : Option (Int32) := (hObj 7 h this).bind fun _ => (f7_pagesEnd h this p0).bind fun x4 => (f7_firstPage h this p0).bind fun x10 => f7_wrongPages_15 h this x4 FU (0 : Int32) x10
theorem ob7_wrongPages {h : AH} {this : Nat} {p0 : Int32} {x : Int32} (e : f7_wrongPages h this p0 = some x) : ∃ fs, hObj 7 h this = some fs := by
  unfold f7_wrongPages at e
  obtain ⟨fs, h1, -⟩ := bd e
  exact ⟨fs, h1⟩
set_option maxRecDepth 100000 in
theorem ct7_wrongPages (l : Launch) (D : va_G) (tys : Tys) (base : Nat) (h : AH) (this : Nat) (p0 : Int32) : Ct l D tys base yX7_wrongPages cX7_wrongPages 5 (some .int) 4 108 0 0 [.ref this, .int p0] h (rI h) (f7_wrongPages h this p0) := by
  refine Ct.intro (own := RX7) (L := [(0, .ref this), (1, .int p0)]) rfl (by decide) rfl (Nat.le_of_ble_eq_true rfl) fun κ hc hr hq hi hL => ?_
  have hn : ∀ i, i < 5 → i < κ.2.2.2.2.1 := fun i q => hL ▸ q
  unfold f7_wrongPages
  refine v_obj ?_
  refine v_iconst (x := (0 : Int32)) hc dX7_wrongPages_0 zi_0 ?_
  refine v_istore_n (i := 2) (L' := [(2, .int (0 : Int32)), (0, .ref this), (1, .int p0)]) hc dX7_wrongPages_1 rfl (hn 2 (Nat.le_of_ble_eq_true rfl)) rfl ?_
  refine v_aload_n (i := 0) hc 1 rfl dX7_wrongPages_2 rfl ?_
  refine v_iload_n (i := 1) hc 2 rfl dX7_wrongPages_3 rfl ?_
  refine v_cI hc (m_V' (As := [.int p0]) (b := this) (rest := []) 1 hc hr (fun l D tys base => ct7_pagesEnd l D tys base h this p0) (fun x hx => ob7_pagesEnd hx) rfl s7_pagesEnd w_491 rfl ⟨Nat.le_of_ble_eq_true rfl, Nat.le_of_ble_eq_true rfl⟩ ⟨Nat.le_of_ble_eq_true rfl, Nat.le_of_ble_eq_true rfl⟩ (Nat.le_of_ble_eq_true rfl) dX7_wrongPages_4) fun x4 => ?_
  refine v_istore_n (i := 3) (L' := [(3, .int x4), (2, .int (0 : Int32)), (0, .ref this), (1, .int p0)]) hc dX7_wrongPages_7 rfl (hn 3 (Nat.le_of_ble_eq_true rfl)) rfl ?_
  refine v_aload_n (i := 0) hc 2 rfl dX7_wrongPages_8 rfl ?_
  refine v_iload_n (i := 1) hc 3 rfl dX7_wrongPages_9 rfl ?_
  refine v_cI hc (m_V' (As := [.int p0]) (b := this) (rest := []) 1 hc hr (fun l D tys base => ct7_firstPage l D tys base h this p0) (fun x hx => ob7_firstPage hx) rfl s7_firstPage w_496 rfl ⟨Nat.le_of_ble_eq_true rfl, Nat.le_of_ble_eq_true rfl⟩ ⟨Nat.le_of_ble_eq_true rfl, Nat.le_of_ble_eq_true rfl⟩ (Nat.le_of_ble_eq_true rfl) dX7_wrongPages_10) fun x10 => ?_
  refine v_istore (i := 4) (L' := [(4, .int x10), (3, .int x4), (2, .int (0 : Int32)), (0, .ref this), (1, .int p0)]) hc dX7_wrongPages_13 (hn 4 (Nat.le_of_ble_eq_true rfl)) rfl ?_
  refine v_sub (L' := [(0, .ref this), (2, .int (0 : Int32)), (3, .int x4), (4, .int x10)]) [3, 2, 1, 0] rfl ?_
  exact vl7_wrongPages_15 hc hr hq hL h this x4 FU (0 : Int32) x10
theorem s7_wrongPages : YV yX7_wrongPages RX7 cX7_wrongPages 5 (some .int) 1 := ⟨w_503, w_501, w_502, w_109, rfl, by decide +kernel, by decide +kernel, by decide +kernel⟩
def f7_sourcesOfPage_45 (h : AH) (v0 : Nat) (v2 : Int32) (v3 : Int32) : Nat → Int32 → Int32 → Option (Int32)
  | 0, _, _ => none
  | n + 1, v5, v6 => (if (6 : Int32) ≤ v6 then some v5 else (fR 7 3 h v0).bind fun x53 => (f2_placeOf h x53 ((v6 * (10000 : Int32)) + v2)).bind fun x64 => (if x64 = v3 then (some (v5 ||| ((1 : Int32) <<< (v6 &&& 31)))).bind fun x78 => (some (v6 + (1 : Int32))).bind fun x80 => f7_sourcesOfPage_45 h v0 v2 v3 n x78 x80 else (some (v6 + (1 : Int32))).bind fun x80 => f7_sourcesOfPage_45 h v0 v2 v3 n v5 x80))
set_option maxRecDepth 100000 in
theorem vl7_sourcesOfPage_45 {κ : Kx} (hc : CX κ RX7 cX7_sourcesOfPage) (hr : RX κ ({ frames := 3, cells := 0, slots := 0, locals := 86 } : Room)) (hq : QX κ (some .int) 0 0) (hL : 7 = κ.2.2.2.2.1)  (h : AH) (v0 : Nat) (v2 : Int32) (v3 : Int32) : ∀ n (v5 : Int32) (v6 : Int32), V κ (rI h) 0 0 45 [(0, .ref v0), (2, .int v2), (3, .int v3), (5, .int v5), (6, .int v6)] [] h (f7_sourcesOfPage_45 h v0 v2 v3 n v5 v6) := by
  have hn : ∀ i, i < 7 → i < κ.2.2.2.2.1 := fun i q => hL ▸ q
  intro n
  induction n with
  | zero => intros; exact v_none
  | succ n ih =>
    intro v5 v6
    rw [f7_sourcesOfPage_45.eq_2]
    refine v_iload (i := 6) hc 4 rfl dX7_sourcesOfPage_45 ?_
    refine v_bipush (x := (6 : Int32)) hc dX7_sourcesOfPage_47 zb_6 ?_
    refine v_icmp_ge hc 86 dX7_sourcesOfPage_49 rfl ?_ ?_
    · refine v_iload (i := 5) hc 3 rfl dX7_sourcesOfPage_86 ?_
      exact v_iret hc hq rfl rfl (Nat.le_of_ble_eq_true rfl) (Nat.le_of_ble_eq_true rfl) rfl dX7_sourcesOfPage_88
    · refine v_aload_n (i := 0) hc 0 rfl dX7_sourcesOfPage_52 rfl ?_
      refine v_getV hc kX7 3 (by decide) w_186 rfl dX7_sourcesOfPage_53 (gR rfl fun x53 => ?_)
      refine v_iload (i := 6) hc 4 rfl dX7_sourcesOfPage_56 ?_
      refine v_sipush (x := (10000 : Int32)) hc dX7_sourcesOfPage_58 zs_10000 ?_
      refine v_imul hc dX7_sourcesOfPage_61 ?_
      refine v_iload_n (i := 2) hc 1 rfl dX7_sourcesOfPage_62 rfl ?_
      refine v_iadd hc dX7_sourcesOfPage_63 ?_
      refine v_cI hc (m_V' (As := [.int ((v6 * (10000 : Int32)) + v2)]) (b := x53) (rest := []) 1 hc hr (fun l D tys base => ct2_placeOf l D tys base h x53 ((v6 * (10000 : Int32)) + v2)) (fun x hx => ob2_placeOf hx) rfl s2_placeOf w_513 rfl ⟨Nat.le_of_ble_eq_true rfl, Nat.le_of_ble_eq_true rfl⟩ ⟨Nat.le_of_ble_eq_true rfl, Nat.le_of_ble_eq_true rfl⟩ (Nat.le_of_ble_eq_true rfl) dX7_sourcesOfPage_64) fun x64 => ?_
      refine v_iload_n (i := 3) hc 2 rfl dX7_sourcesOfPage_67 rfl ?_
      refine v_icmp_ne hc 80 dX7_sourcesOfPage_68 rfl ?_ ?_
      · refine v_iincN (i := 6) (y := (1 : Int32)) (L' := fun z => [(6, .int z), (0, .ref v0), (2, .int v2), (3, .int v3), (5, .int v5)]) hc 4 rfl dX7_sourcesOfPage_80 zi_1 (hn 6 (Nat.le_of_ble_eq_true rfl)) (fun _ => rfl) fun x80 => ?_
        refine v_goto hc 45 dX7_sourcesOfPage_83 rfl ?_
        refine v_sub (L' := [(0, .ref v0), (2, .int v2), (3, .int v3), (5, .int v5), (6, .int x80)]) [1, 2, 3, 4, 0] rfl ?_
        exact ih v5 x80
      · refine v_iload (i := 5) hc 3 rfl dX7_sourcesOfPage_71 ?_
        refine v_iconst (x := (1 : Int32)) hc dX7_sourcesOfPage_73 zi_1 ?_
        refine v_iload (i := 6) hc 4 rfl dX7_sourcesOfPage_74 ?_
        refine v_ishl hc dX7_sourcesOfPage_76 ?_
        refine v_ior hc dX7_sourcesOfPage_77 ?_
        refine v_nmI fun x78 => ?_
        refine v_istore (i := 5) (L' := [(5, .int x78), (0, .ref v0), (2, .int v2), (3, .int v3), (6, .int v6)]) hc dX7_sourcesOfPage_78 (hn 5 (Nat.le_of_ble_eq_true rfl)) rfl ?_
        refine v_iincN (i := 6) (y := (1 : Int32)) (L' := fun z => [(6, .int z), (5, .int x78), (0, .ref v0), (2, .int v2), (3, .int v3)]) hc 4 rfl dX7_sourcesOfPage_80 zi_1 (hn 6 (Nat.le_of_ble_eq_true rfl)) (fun _ => rfl) fun x80 => ?_
        refine v_goto hc 45 dX7_sourcesOfPage_83 rfl ?_
        refine v_sub (L' := [(0, .ref v0), (2, .int v2), (3, .int v3), (5, .int x78), (6, .int x80)]) [2, 3, 4, 1, 0] rfl ?_
        exact ih x78 x80
def f7_sourcesOfPage (h : AH) (this : Nat) (p0 : Int32) : Option (Int32) := (hObj 7 h this).bind fun _ => (f7_dayOfPage h this p0).bind fun x2 => (fR 7 5 h this).bind fun x7 => (f2_placeAt h x7 p0).bind fun x11 => (fR 7 2 h this).bind fun x16 => (f2_placeOf h x16 x2).bind fun x20 => (if x20 = (-1 : Int32) then some (0 : Int32) else (if x20 = x11 then some (0 : Int32) else f7_sourcesOfPage_45 h this x2 x11 FU (0 : Int32) (0 : Int32)))
theorem ob7_sourcesOfPage {h : AH} {this : Nat} {p0 : Int32} {x : Int32} (e : f7_sourcesOfPage h this p0 = some x) : ∃ fs, hObj 7 h this = some fs := by
  unfold f7_sourcesOfPage at e
  obtain ⟨fs, h1, -⟩ := bd e
  exact ⟨fs, h1⟩
set_option maxRecDepth 100000 in
theorem ct7_sourcesOfPage (l : Launch) (D : va_G) (tys : Tys) (base : Nat) (h : AH) (this : Nat) (p0 : Int32) : Ct l D tys base yX7_sourcesOfPage cX7_sourcesOfPage 7 (some .int) 3 86 0 0 [.ref this, .int p0] h (rI h) (f7_sourcesOfPage h this p0) := by
  refine Ct.intro (own := RX7) (L := [(0, .ref this), (1, .int p0)]) rfl (by decide) rfl (Nat.le_of_ble_eq_true rfl) fun κ hc hr hq hi hL => ?_
  have hn : ∀ i, i < 7 → i < κ.2.2.2.2.1 := fun i q => hL ▸ q
  unfold f7_sourcesOfPage
  refine v_obj ?_
  refine v_aload_n (i := 0) hc 0 rfl dX7_sourcesOfPage_0 rfl ?_
  refine v_iload_n (i := 1) hc 1 rfl dX7_sourcesOfPage_1 rfl ?_
  refine v_cI hc (m_V' (As := [.int p0]) (b := this) (rest := []) 1 hc hr (fun l D tys base => ct7_dayOfPage l D tys base h this p0) (fun x hx => ob7_dayOfPage hx) rfl s7_dayOfPage w_508 rfl ⟨Nat.le_of_ble_eq_true rfl, Nat.le_of_ble_eq_true rfl⟩ ⟨Nat.le_of_ble_eq_true rfl, Nat.le_of_ble_eq_true rfl⟩ (Nat.le_of_ble_eq_true rfl) dX7_sourcesOfPage_2) fun x2 => ?_
  refine v_istore_n (i := 2) (L' := [(2, .int x2), (0, .ref this), (1, .int p0)]) hc dX7_sourcesOfPage_5 rfl (hn 2 (Nat.le_of_ble_eq_true rfl)) rfl ?_
  refine v_aload_n (i := 0) hc 1 rfl dX7_sourcesOfPage_6 rfl ?_
  refine v_getV hc kX7 5 (by decide) w_192 rfl dX7_sourcesOfPage_7 (gR rfl fun x7 => ?_)
  refine v_iload_n (i := 1) hc 2 rfl dX7_sourcesOfPage_10 rfl ?_
  refine v_cI hc (m_V' (As := [.int p0]) (b := x7) (rest := []) 1 hc hr (fun l D tys base => ct2_placeAt l D tys base h x7 p0) (fun x hx => ob2_placeAt hx) rfl s2_placeAt w_521 rfl ⟨Nat.le_of_ble_eq_true rfl, Nat.le_of_ble_eq_true rfl⟩ ⟨Nat.le_of_ble_eq_true rfl, Nat.le_of_ble_eq_true rfl⟩ (Nat.le_of_ble_eq_true rfl) dX7_sourcesOfPage_11) fun x11 => ?_
  refine v_istore_n (i := 3) (L' := [(3, .int x11), (2, .int x2), (0, .ref this), (1, .int p0)]) hc dX7_sourcesOfPage_14 rfl (hn 3 (Nat.le_of_ble_eq_true rfl)) rfl ?_
  refine v_aload_n (i := 0) hc 2 rfl dX7_sourcesOfPage_15 rfl ?_
  refine v_getV hc kX7 2 (by decide) w_183 rfl dX7_sourcesOfPage_16 (gR rfl fun x16 => ?_)
  refine v_iload_n (i := 2) hc 1 rfl dX7_sourcesOfPage_19 rfl ?_
  refine v_cI hc (m_V' (As := [.int x2]) (b := x16) (rest := []) 1 hc hr (fun l D tys base => ct2_placeOf l D tys base h x16 x2) (fun x hx => ob2_placeOf hx) rfl s2_placeOf w_513 rfl ⟨Nat.le_of_ble_eq_true rfl, Nat.le_of_ble_eq_true rfl⟩ ⟨Nat.le_of_ble_eq_true rfl, Nat.le_of_ble_eq_true rfl⟩ (Nat.le_of_ble_eq_true rfl) dX7_sourcesOfPage_20) fun x20 => ?_
  refine v_istore (i := 4) (L' := [(4, .int x20), (3, .int x11), (2, .int x2), (0, .ref this), (1, .int p0)]) hc dX7_sourcesOfPage_23 (hn 4 (Nat.le_of_ble_eq_true rfl)) rfl ?_
  refine v_iload (i := 4) hc 0 rfl dX7_sourcesOfPage_25 ?_
  refine v_iconst (x := (-1 : Int32)) hc dX7_sourcesOfPage_27 zi_m1 ?_
  refine v_icmp_eq hc 37 dX7_sourcesOfPage_28 rfl ?_ ?_
  · refine v_iconst (x := (0 : Int32)) hc dX7_sourcesOfPage_37 zi_0 ?_
    exact v_iret hc hq rfl rfl (Nat.le_of_ble_eq_true rfl) (Nat.le_of_ble_eq_true rfl) rfl dX7_sourcesOfPage_38
  · refine v_iload (i := 4) hc 0 rfl dX7_sourcesOfPage_31 ?_
    refine v_iload_n (i := 3) hc 1 rfl dX7_sourcesOfPage_33 rfl ?_
    refine v_icmp_ne hc 39 dX7_sourcesOfPage_34 rfl ?_ ?_
    · refine v_iconst (x := (0 : Int32)) hc dX7_sourcesOfPage_39 zi_0 ?_
      refine v_istore (i := 5) (L' := [(5, .int (0 : Int32)), (4, .int x20), (3, .int x11), (2, .int x2), (0, .ref this), (1, .int p0)]) hc dX7_sourcesOfPage_40 (hn 5 (Nat.le_of_ble_eq_true rfl)) rfl ?_
      refine v_iconst (x := (0 : Int32)) hc dX7_sourcesOfPage_42 zi_0 ?_
      refine v_istore (i := 6) (L' := [(6, .int (0 : Int32)), (5, .int (0 : Int32)), (4, .int x20), (3, .int x11), (2, .int x2), (0, .ref this), (1, .int p0)]) hc dX7_sourcesOfPage_43 (hn 6 (Nat.le_of_ble_eq_true rfl)) rfl ?_
      refine v_sub (L' := [(0, .ref this), (2, .int x2), (3, .int x11), (5, .int (0 : Int32)), (6, .int (0 : Int32))]) [5, 4, 3, 1, 0] rfl ?_
      exact vl7_sourcesOfPage_45 hc hr hq hL h this x2 x11 FU (0 : Int32) (0 : Int32)
    · refine v_iconst (x := (0 : Int32)) hc dX7_sourcesOfPage_37 zi_0 ?_
      exact v_iret hc hq rfl rfl (Nat.le_of_ble_eq_true rfl) (Nat.le_of_ble_eq_true rfl) rfl dX7_sourcesOfPage_38
theorem s7_sourcesOfPage : YV yX7_sourcesOfPage RX7 cX7_sourcesOfPage 7 (some .int) 1 := ⟨w_529, w_528, w_2, w_109, rfl, by decide +kernel, by decide +kernel, by decide +kernel⟩
def f7_sharedPages_15 (h : AH) (v0 : Nat) (v3 : Int32) : Nat → Int32 → Int32 → Option (Int32)
  | 0, _, _ => none
  | n + 1, v2, v4 => (if v3 ≤ v4 then some v2 else (f7_sourcesOfPage h v0 v4).bind fun x24 => (if x24 = 0 then (some (v4 + (1 : Int32))).bind fun x33 => f7_sharedPages_15 h v0 v3 n v2 x33 else (some (v2 + (1 : Int32))).bind fun x30 => (some (v4 + (1 : Int32))).bind fun x33 => f7_sharedPages_15 h v0 v3 n x30 x33))
set_option maxRecDepth 100000 in
theorem vl7_sharedPages_15 {κ : Kx} (hc : CX κ RX7 cX7_sharedPages) (hr : RX κ ({ frames := 4, cells := 0, slots := 0, locals := 112 } : Room)) (hq : QX κ (some .int) 0 0) (hL : 5 = κ.2.2.2.2.1)  (h : AH) (v0 : Nat) (v3 : Int32) : ∀ n (v2 : Int32) (v4 : Int32), V κ (rI h) 0 0 15 [(0, .ref v0), (2, .int v2), (3, .int v3), (4, .int v4)] [] h (f7_sharedPages_15 h v0 v3 n v2 v4) := by
  have hn : ∀ i, i < 5 → i < κ.2.2.2.2.1 := fun i q => hL ▸ q
  intro n
  induction n with
  | zero => intros; exact v_none
  | succ n ih =>
    intro v2 v4
    rw [f7_sharedPages_15.eq_2]
    refine v_iload (i := 4) hc 3 rfl dX7_sharedPages_15 ?_
    refine v_iload_n (i := 3) hc 2 rfl dX7_sharedPages_17 rfl ?_
    refine v_icmp_ge hc 39 dX7_sharedPages_18 rfl ?_ ?_
    · refine v_iload_n (i := 2) hc 1 rfl dX7_sharedPages_39 rfl ?_
      exact v_iret hc hq rfl rfl (Nat.le_of_ble_eq_true rfl) (Nat.le_of_ble_eq_true rfl) rfl dX7_sharedPages_40
    · refine v_aload_n (i := 0) hc 0 rfl dX7_sharedPages_21 rfl ?_
      refine v_iload (i := 4) hc 3 rfl dX7_sharedPages_22 ?_
      refine v_cI hc (m_V' (As := [.int v4]) (b := v0) (rest := []) 1 hc hr (fun l D tys base => ct7_sourcesOfPage l D tys base h v0 v4) (fun x hx => ob7_sourcesOfPage hx) rfl s7_sourcesOfPage w_526 rfl ⟨Nat.le_of_ble_eq_true rfl, Nat.le_of_ble_eq_true rfl⟩ ⟨Nat.le_of_ble_eq_true rfl, Nat.le_of_ble_eq_true rfl⟩ (Nat.le_of_ble_eq_true rfl) dX7_sharedPages_24) fun x24 => ?_
      refine v_if_eq hc 33 dX7_sharedPages_27 rfl ?_ ?_
      · refine v_iincN (i := 4) (y := (1 : Int32)) (L' := fun z => [(4, .int z), (0, .ref v0), (2, .int v2), (3, .int v3)]) hc 3 rfl dX7_sharedPages_33 zi_1 (hn 4 (Nat.le_of_ble_eq_true rfl)) (fun _ => rfl) fun x33 => ?_
        refine v_goto hc 15 dX7_sharedPages_36 rfl ?_
        refine v_sub (L' := [(0, .ref v0), (2, .int v2), (3, .int v3), (4, .int x33)]) [1, 2, 3, 0] rfl ?_
        exact ih v2 x33
      · refine v_iincN (i := 2) (y := (1 : Int32)) (L' := fun z => [(2, .int z), (0, .ref v0), (3, .int v3), (4, .int v4)]) hc 1 rfl dX7_sharedPages_30 zi_1 (hn 2 (Nat.le_of_ble_eq_true rfl)) (fun _ => rfl) fun x30 => ?_
        refine v_iincN (i := 4) (y := (1 : Int32)) (L' := fun z => [(4, .int z), (2, .int x30), (0, .ref v0), (3, .int v3)]) hc 3 rfl dX7_sharedPages_33 zi_1 (hn 4 (Nat.le_of_ble_eq_true rfl)) (fun _ => rfl) fun x33 => ?_
        refine v_goto hc 15 dX7_sharedPages_36 rfl ?_
        refine v_sub (L' := [(0, .ref v0), (2, .int x30), (3, .int v3), (4, .int x33)]) [2, 1, 3, 0] rfl ?_
        exact ih x30 x33
def f7_sharedPages (h : AH) (this : Nat) (p0 : Int32) : Option (Int32) := (hObj 7 h this).bind fun _ => (f7_pagesEnd h this p0).bind fun x4 => (f7_firstPage h this p0).bind fun x10 => f7_sharedPages_15 h this x4 FU (0 : Int32) x10
theorem ob7_sharedPages {h : AH} {this : Nat} {p0 : Int32} {x : Int32} (e : f7_sharedPages h this p0 = some x) : ∃ fs, hObj 7 h this = some fs := by
  unfold f7_sharedPages at e
  obtain ⟨fs, h1, -⟩ := bd e
  exact ⟨fs, h1⟩
set_option maxRecDepth 100000 in
theorem ct7_sharedPages (l : Launch) (D : va_G) (tys : Tys) (base : Nat) (h : AH) (this : Nat) (p0 : Int32) : Ct l D tys base yX7_sharedPages cX7_sharedPages 5 (some .int) 4 112 0 0 [.ref this, .int p0] h (rI h) (f7_sharedPages h this p0) := by
  refine Ct.intro (own := RX7) (L := [(0, .ref this), (1, .int p0)]) rfl (by decide) rfl (Nat.le_of_ble_eq_true rfl) fun κ hc hr hq hi hL => ?_
  have hn : ∀ i, i < 5 → i < κ.2.2.2.2.1 := fun i q => hL ▸ q
  unfold f7_sharedPages
  refine v_obj ?_
  refine v_iconst (x := (0 : Int32)) hc dX7_sharedPages_0 zi_0 ?_
  refine v_istore_n (i := 2) (L' := [(2, .int (0 : Int32)), (0, .ref this), (1, .int p0)]) hc dX7_sharedPages_1 rfl (hn 2 (Nat.le_of_ble_eq_true rfl)) rfl ?_
  refine v_aload_n (i := 0) hc 1 rfl dX7_sharedPages_2 rfl ?_
  refine v_iload_n (i := 1) hc 2 rfl dX7_sharedPages_3 rfl ?_
  refine v_cI hc (m_V' (As := [.int p0]) (b := this) (rest := []) 1 hc hr (fun l D tys base => ct7_pagesEnd l D tys base h this p0) (fun x hx => ob7_pagesEnd hx) rfl s7_pagesEnd w_491 rfl ⟨Nat.le_of_ble_eq_true rfl, Nat.le_of_ble_eq_true rfl⟩ ⟨Nat.le_of_ble_eq_true rfl, Nat.le_of_ble_eq_true rfl⟩ (Nat.le_of_ble_eq_true rfl) dX7_sharedPages_4) fun x4 => ?_
  refine v_istore_n (i := 3) (L' := [(3, .int x4), (2, .int (0 : Int32)), (0, .ref this), (1, .int p0)]) hc dX7_sharedPages_7 rfl (hn 3 (Nat.le_of_ble_eq_true rfl)) rfl ?_
  refine v_aload_n (i := 0) hc 2 rfl dX7_sharedPages_8 rfl ?_
  refine v_iload_n (i := 1) hc 3 rfl dX7_sharedPages_9 rfl ?_
  refine v_cI hc (m_V' (As := [.int p0]) (b := this) (rest := []) 1 hc hr (fun l D tys base => ct7_firstPage l D tys base h this p0) (fun x hx => ob7_firstPage hx) rfl s7_firstPage w_496 rfl ⟨Nat.le_of_ble_eq_true rfl, Nat.le_of_ble_eq_true rfl⟩ ⟨Nat.le_of_ble_eq_true rfl, Nat.le_of_ble_eq_true rfl⟩ (Nat.le_of_ble_eq_true rfl) dX7_sharedPages_10) fun x10 => ?_
  refine v_istore (i := 4) (L' := [(4, .int x10), (3, .int x4), (2, .int (0 : Int32)), (0, .ref this), (1, .int p0)]) hc dX7_sharedPages_13 (hn 4 (Nat.le_of_ble_eq_true rfl)) rfl ?_
  refine v_sub (L' := [(0, .ref this), (2, .int (0 : Int32)), (3, .int x4), (4, .int x10)]) [3, 2, 1, 0] rfl ?_
  exact vl7_sharedPages_15 hc hr hq hL h this x4 FU (0 : Int32) x10
theorem s7_sharedPages : YV yX7_sharedPages RX7 cX7_sharedPages 5 (some .int) 1 := ⟨w_525, w_523, w_524, w_109, rfl, by decide +kernel, by decide +kernel, by decide +kernel⟩
def f7_isNowhere_18 (h : AH) (v0 : Nat) (v2 : Int32) : Nat → Bool → Int32 → Option (Bool)
  | 0, _, _ => none
  | n + 1, v3, v4 => (if (6 : Int32) ≤ v4 then (if v3 = true then some false else some true) else (if v3 = true then (some (v4 + (1 : Int32))).bind fun x53 => f7_isNowhere_18 h v0 v2 n true x53 else (fR 7 3 h v0).bind fun x30 => (f2_hasKey h x30 ((v4 * (10000 : Int32)) + v2)).bind fun x41 => (if x41 = true then (some (v4 + (1 : Int32))).bind fun x53 => f7_isNowhere_18 h v0 v2 n true x53 else (some (v4 + (1 : Int32))).bind fun x53 => f7_isNowhere_18 h v0 v2 n false x53)))
set_option maxRecDepth 100000 in
theorem vl7_isNowhere_18 {κ : Kx} (hc : CX κ RX7 cX7_isNowhere) (hr : RX κ ({ frames := 3, cells := 0, slots := 0, locals := 85 } : Room)) (hq : QX κ (some .boolean) 0 0) (hL : 5 = κ.2.2.2.2.1)  (h : AH) (v0 : Nat) (v2 : Int32) : ∀ n (v3 : Bool) (v4 : Int32), V κ (rB h) 0 0 18 [(0, .ref v0), (2, .int v2), (3, .int (bI v3)), (4, .int v4)] [] h (f7_isNowhere_18 h v0 v2 n v3 v4) := by
  have hn : ∀ i, i < 5 → i < κ.2.2.2.2.1 := fun i q => hL ▸ q
  intro n
  induction n with
  | zero => intros; exact v_none
  | succ n ih =>
    intro v3 v4
    rw [f7_isNowhere_18.eq_2]
    refine v_iload (i := 4) hc 3 rfl dX7_isNowhere_18 ?_
    refine v_bipush (x := (6 : Int32)) hc dX7_isNowhere_20 zb_6 ?_
    refine v_icmp_ge hc 59 dX7_isNowhere_22 rfl ?_ ?_
    · refine v_iload_n (i := 3) hc 2 rfl dX7_isNowhere_59 rfl ?_
      refine v_ifb_ne hc 67 dX7_isNowhere_60 rfl ?_ ?_
      · refine v_iconst (x := (0 : Int32)) hc dX7_isNowhere_67 zi_0 ?_
        exact v_iret (v := bI false) hc hq rfl (nar_b false) (Nat.le_of_ble_eq_true rfl) (Nat.le_of_ble_eq_true rfl) rfl dX7_isNowhere_68
      · refine v_iconst (x := (1 : Int32)) hc dX7_isNowhere_63 zi_1 ?_
        refine v_goto hc 68 dX7_isNowhere_64 rfl ?_
        exact v_iret (v := bI true) hc hq rfl (nar_b true) (Nat.le_of_ble_eq_true rfl) (Nat.le_of_ble_eq_true rfl) rfl dX7_isNowhere_68
    · refine v_iload_n (i := 3) hc 2 rfl dX7_isNowhere_25 rfl ?_
      refine v_ifb_ne hc 47 dX7_isNowhere_26 rfl ?_ ?_
      · refine v_iconst (x := (1 : Int32)) hc dX7_isNowhere_47 zi_1 ?_
        refine v_goto hc 52 dX7_isNowhere_48 rfl ?_
        refine v_istore_n (i := 3) (L' := [(3, .int (1 : Int32)), (0, .ref v0), (2, .int v2), (4, .int v4)]) hc dX7_isNowhere_52 rfl (hn 3 (Nat.le_of_ble_eq_true rfl)) rfl ?_
        refine v_iincN (i := 4) (y := (1 : Int32)) (L' := fun z => [(4, .int z), (3, .int (1 : Int32)), (0, .ref v0), (2, .int v2)]) hc 3 rfl dX7_isNowhere_53 zi_1 (hn 4 (Nat.le_of_ble_eq_true rfl)) (fun _ => rfl) fun x53 => ?_
        refine v_goto hc 18 dX7_isNowhere_56 rfl ?_
        refine v_sub (L' := [(0, .ref v0), (2, .int v2), (3, .int (bI true)), (4, .int x53)]) [2, 3, 1, 0] rfl ?_
        exact ih true x53
      · refine v_aload_n (i := 0) hc 0 rfl dX7_isNowhere_29 rfl ?_
        refine v_getV hc kX7 3 (by decide) w_186 rfl dX7_isNowhere_30 (gR rfl fun x30 => ?_)
        refine v_iload (i := 4) hc 3 rfl dX7_isNowhere_33 ?_
        refine v_sipush (x := (10000 : Int32)) hc dX7_isNowhere_35 zs_10000 ?_
        refine v_imul hc dX7_isNowhere_38 ?_
        refine v_iload_n (i := 2) hc 1 rfl dX7_isNowhere_39 rfl ?_
        refine v_iadd hc dX7_isNowhere_40 ?_
        refine v_cB hc (m_V' (As := [.int ((v4 * (10000 : Int32)) + v2)]) (b := x30) (rest := []) 1 hc hr (fun l D tys base => ct2_hasKey l D tys base h x30 ((v4 * (10000 : Int32)) + v2)) (fun x hx => ob2_hasKey hx) rfl s2_hasKey w_538 rfl ⟨Nat.le_of_ble_eq_true rfl, Nat.le_of_ble_eq_true rfl⟩ ⟨Nat.le_of_ble_eq_true rfl, Nat.le_of_ble_eq_true rfl⟩ (Nat.le_of_ble_eq_true rfl) dX7_isNowhere_41) fun x41 => ?_
        refine v_ifb_eq hc 51 dX7_isNowhere_44 rfl ?_ ?_
        · refine v_iconst (x := (0 : Int32)) hc dX7_isNowhere_51 zi_0 ?_
          refine v_istore_n (i := 3) (L' := [(3, .int (0 : Int32)), (0, .ref v0), (2, .int v2), (4, .int v4)]) hc dX7_isNowhere_52 rfl (hn 3 (Nat.le_of_ble_eq_true rfl)) rfl ?_
          refine v_iincN (i := 4) (y := (1 : Int32)) (L' := fun z => [(4, .int z), (3, .int (0 : Int32)), (0, .ref v0), (2, .int v2)]) hc 3 rfl dX7_isNowhere_53 zi_1 (hn 4 (Nat.le_of_ble_eq_true rfl)) (fun _ => rfl) fun x53 => ?_
          refine v_goto hc 18 dX7_isNowhere_56 rfl ?_
          refine v_sub (L' := [(0, .ref v0), (2, .int v2), (3, .int (bI false)), (4, .int x53)]) [2, 3, 1, 0] rfl ?_
          exact ih false x53
        · refine v_iconst (x := (1 : Int32)) hc dX7_isNowhere_47 zi_1 ?_
          refine v_goto hc 52 dX7_isNowhere_48 rfl ?_
          refine v_istore_n (i := 3) (L' := [(3, .int (1 : Int32)), (0, .ref v0), (2, .int v2), (4, .int v4)]) hc dX7_isNowhere_52 rfl (hn 3 (Nat.le_of_ble_eq_true rfl)) rfl ?_
          refine v_iincN (i := 4) (y := (1 : Int32)) (L' := fun z => [(4, .int z), (3, .int (1 : Int32)), (0, .ref v0), (2, .int v2)]) hc 3 rfl dX7_isNowhere_53 zi_1 (hn 4 (Nat.le_of_ble_eq_true rfl)) (fun _ => rfl) fun x53 => ?_
          refine v_goto hc 18 dX7_isNowhere_56 rfl ?_
          refine v_sub (L' := [(0, .ref v0), (2, .int v2), (3, .int (bI true)), (4, .int x53)]) [2, 3, 1, 0] rfl ?_
          exact ih true x53
def f7_isNowhere (h : AH) (this : Nat) (p0 : Int32) : Option (Bool) := (hObj 7 h this).bind fun _ => (f7_dayOfPage h this p0).bind fun x2 => (fR 7 2 h this).bind fun x7 => (f2_hasKey h x7 x2).bind fun x11 => f7_isNowhere_18 h this x2 FU x11 (0 : Int32)
theorem ob7_isNowhere {h : AH} {this : Nat} {p0 : Int32} {x : Bool} (e : f7_isNowhere h this p0 = some x) : ∃ fs, hObj 7 h this = some fs := by
  unfold f7_isNowhere at e
  obtain ⟨fs, h1, -⟩ := bd e
  exact ⟨fs, h1⟩
set_option maxRecDepth 100000 in
theorem ct7_isNowhere (l : Launch) (D : va_G) (tys : Tys) (base : Nat) (h : AH) (this : Nat) (p0 : Int32) : Ct l D tys base yX7_isNowhere cX7_isNowhere 5 (some .boolean) 3 85 0 0 [.ref this, .int p0] h (rB h) (f7_isNowhere h this p0) := by
  refine Ct.intro (own := RX7) (L := [(0, .ref this), (1, .int p0)]) rfl (by decide) rfl (Nat.le_of_ble_eq_true rfl) fun κ hc hr hq hi hL => ?_
  have hn : ∀ i, i < 5 → i < κ.2.2.2.2.1 := fun i q => hL ▸ q
  unfold f7_isNowhere
  refine v_obj ?_
  refine v_aload_n (i := 0) hc 0 rfl dX7_isNowhere_0 rfl ?_
  refine v_iload_n (i := 1) hc 1 rfl dX7_isNowhere_1 rfl ?_
  refine v_cI hc (m_V' (As := [.int p0]) (b := this) (rest := []) 1 hc hr (fun l D tys base => ct7_dayOfPage l D tys base h this p0) (fun x hx => ob7_dayOfPage hx) rfl s7_dayOfPage w_508 rfl ⟨Nat.le_of_ble_eq_true rfl, Nat.le_of_ble_eq_true rfl⟩ ⟨Nat.le_of_ble_eq_true rfl, Nat.le_of_ble_eq_true rfl⟩ (Nat.le_of_ble_eq_true rfl) dX7_isNowhere_2) fun x2 => ?_
  refine v_istore_n (i := 2) (L' := [(2, .int x2), (0, .ref this), (1, .int p0)]) hc dX7_isNowhere_5 rfl (hn 2 (Nat.le_of_ble_eq_true rfl)) rfl ?_
  refine v_aload_n (i := 0) hc 1 rfl dX7_isNowhere_6 rfl ?_
  refine v_getV hc kX7 2 (by decide) w_183 rfl dX7_isNowhere_7 (gR rfl fun x7 => ?_)
  refine v_iload_n (i := 2) hc 0 rfl dX7_isNowhere_10 rfl ?_
  refine v_cB hc (m_V' (As := [.int x2]) (b := x7) (rest := []) 1 hc hr (fun l D tys base => ct2_hasKey l D tys base h x7 x2) (fun x hx => ob2_hasKey hx) rfl s2_hasKey w_538 rfl ⟨Nat.le_of_ble_eq_true rfl, Nat.le_of_ble_eq_true rfl⟩ ⟨Nat.le_of_ble_eq_true rfl, Nat.le_of_ble_eq_true rfl⟩ (Nat.le_of_ble_eq_true rfl) dX7_isNowhere_11) fun x11 => ?_
  refine v_istore_n (i := 3) (L' := [(3, .int (bI x11)), (2, .int x2), (0, .ref this), (1, .int p0)]) hc dX7_isNowhere_14 rfl (hn 3 (Nat.le_of_ble_eq_true rfl)) rfl ?_
  refine v_iconst (x := (0 : Int32)) hc dX7_isNowhere_15 zi_0 ?_
  refine v_istore (i := 4) (L' := [(4, .int (0 : Int32)), (3, .int (bI x11)), (2, .int x2), (0, .ref this), (1, .int p0)]) hc dX7_isNowhere_16 (hn 4 (Nat.le_of_ble_eq_true rfl)) rfl ?_
  refine v_sub (L' := [(0, .ref this), (2, .int x2), (3, .int (bI x11)), (4, .int (0 : Int32))]) [3, 2, 1, 0] rfl ?_
  exact vl7_isNowhere_18 hc hr hq hL h this x2 FU x11 (0 : Int32)
theorem s7_isNowhere : YV yX7_isNowhere RX7 cX7_isNowhere 5 (some .boolean) 1 := ⟨w_537, w_536, w_3, w_109, rfl, by decide +kernel, by decide +kernel, by decide +kernel⟩
def f7_nowherePages_15 (h : AH) (v0 : Nat) (v3 : Int32) : Nat → Int32 → Int32 → Option (Int32)
  | 0, _, _ => none
  | n + 1, v2, v4 => (if v3 ≤ v4 then some v2 else (f7_isNowhere h v0 v4).bind fun x24 => (if x24 = true then (some (v2 + (1 : Int32))).bind fun x30 => (some (v4 + (1 : Int32))).bind fun x33 => f7_nowherePages_15 h v0 v3 n x30 x33 else (some (v4 + (1 : Int32))).bind fun x33 => f7_nowherePages_15 h v0 v3 n v2 x33))
set_option maxRecDepth 100000 in
theorem vl7_nowherePages_15 {κ : Kx} (hc : CX κ RX7 cX7_nowherePages) (hr : RX κ ({ frames := 4, cells := 0, slots := 0, locals := 109 } : Room)) (hq : QX κ (some .int) 0 0) (hL : 5 = κ.2.2.2.2.1)  (h : AH) (v0 : Nat) (v3 : Int32) : ∀ n (v2 : Int32) (v4 : Int32), V κ (rI h) 0 0 15 [(0, .ref v0), (2, .int v2), (3, .int v3), (4, .int v4)] [] h (f7_nowherePages_15 h v0 v3 n v2 v4) := by
  have hn : ∀ i, i < 5 → i < κ.2.2.2.2.1 := fun i q => hL ▸ q
  intro n
  induction n with
  | zero => intros; exact v_none
  | succ n ih =>
    intro v2 v4
    rw [f7_nowherePages_15.eq_2]
    refine v_iload (i := 4) hc 3 rfl dX7_nowherePages_15 ?_
    refine v_iload_n (i := 3) hc 2 rfl dX7_nowherePages_17 rfl ?_
    refine v_icmp_ge hc 39 dX7_nowherePages_18 rfl ?_ ?_
    · refine v_iload_n (i := 2) hc 1 rfl dX7_nowherePages_39 rfl ?_
      exact v_iret hc hq rfl rfl (Nat.le_of_ble_eq_true rfl) (Nat.le_of_ble_eq_true rfl) rfl dX7_nowherePages_40
    · refine v_aload_n (i := 0) hc 0 rfl dX7_nowherePages_21 rfl ?_
      refine v_iload (i := 4) hc 3 rfl dX7_nowherePages_22 ?_
      refine v_cB hc (m_V' (As := [.int v4]) (b := v0) (rest := []) 1 hc hr (fun l D tys base => ct7_isNowhere l D tys base h v0 v4) (fun x hx => ob7_isNowhere hx) rfl s7_isNowhere w_534 rfl ⟨Nat.le_of_ble_eq_true rfl, Nat.le_of_ble_eq_true rfl⟩ ⟨Nat.le_of_ble_eq_true rfl, Nat.le_of_ble_eq_true rfl⟩ (Nat.le_of_ble_eq_true rfl) dX7_nowherePages_24) fun x24 => ?_
      refine v_ifb_eq hc 33 dX7_nowherePages_27 rfl ?_ ?_
      · refine v_iincN (i := 4) (y := (1 : Int32)) (L' := fun z => [(4, .int z), (0, .ref v0), (2, .int v2), (3, .int v3)]) hc 3 rfl dX7_nowherePages_33 zi_1 (hn 4 (Nat.le_of_ble_eq_true rfl)) (fun _ => rfl) fun x33 => ?_
        refine v_goto hc 15 dX7_nowherePages_36 rfl ?_
        refine v_sub (L' := [(0, .ref v0), (2, .int v2), (3, .int v3), (4, .int x33)]) [1, 2, 3, 0] rfl ?_
        exact ih v2 x33
      · refine v_iincN (i := 2) (y := (1 : Int32)) (L' := fun z => [(2, .int z), (0, .ref v0), (3, .int v3), (4, .int v4)]) hc 1 rfl dX7_nowherePages_30 zi_1 (hn 2 (Nat.le_of_ble_eq_true rfl)) (fun _ => rfl) fun x30 => ?_
        refine v_iincN (i := 4) (y := (1 : Int32)) (L' := fun z => [(4, .int z), (2, .int x30), (0, .ref v0), (3, .int v3)]) hc 3 rfl dX7_nowherePages_33 zi_1 (hn 4 (Nat.le_of_ble_eq_true rfl)) (fun _ => rfl) fun x33 => ?_
        refine v_goto hc 15 dX7_nowherePages_36 rfl ?_
        refine v_sub (L' := [(0, .ref v0), (2, .int x30), (3, .int v3), (4, .int x33)]) [2, 1, 3, 0] rfl ?_
        exact ih x30 x33
def f7_nowherePages (h : AH) (this : Nat) (p0 : Int32) : Option (Int32) := (hObj 7 h this).bind fun _ => (f7_pagesEnd h this p0).bind fun x4 => (f7_firstPage h this p0).bind fun x10 => f7_nowherePages_15 h this x4 FU (0 : Int32) x10
theorem ob7_nowherePages {h : AH} {this : Nat} {p0 : Int32} {x : Int32} (e : f7_nowherePages h this p0 = some x) : ∃ fs, hObj 7 h this = some fs := by
  unfold f7_nowherePages at e
  obtain ⟨fs, h1, -⟩ := bd e
  exact ⟨fs, h1⟩
set_option maxRecDepth 100000 in
theorem ct7_nowherePages (l : Launch) (D : va_G) (tys : Tys) (base : Nat) (h : AH) (this : Nat) (p0 : Int32) : Ct l D tys base yX7_nowherePages cX7_nowherePages 5 (some .int) 4 109 0 0 [.ref this, .int p0] h (rI h) (f7_nowherePages h this p0) := by
  refine Ct.intro (own := RX7) (L := [(0, .ref this), (1, .int p0)]) rfl (by decide) rfl (Nat.le_of_ble_eq_true rfl) fun κ hc hr hq hi hL => ?_
  have hn : ∀ i, i < 5 → i < κ.2.2.2.2.1 := fun i q => hL ▸ q
  unfold f7_nowherePages
  refine v_obj ?_
  refine v_iconst (x := (0 : Int32)) hc dX7_nowherePages_0 zi_0 ?_
  refine v_istore_n (i := 2) (L' := [(2, .int (0 : Int32)), (0, .ref this), (1, .int p0)]) hc dX7_nowherePages_1 rfl (hn 2 (Nat.le_of_ble_eq_true rfl)) rfl ?_
  refine v_aload_n (i := 0) hc 1 rfl dX7_nowherePages_2 rfl ?_
  refine v_iload_n (i := 1) hc 2 rfl dX7_nowherePages_3 rfl ?_
  refine v_cI hc (m_V' (As := [.int p0]) (b := this) (rest := []) 1 hc hr (fun l D tys base => ct7_pagesEnd l D tys base h this p0) (fun x hx => ob7_pagesEnd hx) rfl s7_pagesEnd w_491 rfl ⟨Nat.le_of_ble_eq_true rfl, Nat.le_of_ble_eq_true rfl⟩ ⟨Nat.le_of_ble_eq_true rfl, Nat.le_of_ble_eq_true rfl⟩ (Nat.le_of_ble_eq_true rfl) dX7_nowherePages_4) fun x4 => ?_
  refine v_istore_n (i := 3) (L' := [(3, .int x4), (2, .int (0 : Int32)), (0, .ref this), (1, .int p0)]) hc dX7_nowherePages_7 rfl (hn 3 (Nat.le_of_ble_eq_true rfl)) rfl ?_
  refine v_aload_n (i := 0) hc 2 rfl dX7_nowherePages_8 rfl ?_
  refine v_iload_n (i := 1) hc 3 rfl dX7_nowherePages_9 rfl ?_
  refine v_cI hc (m_V' (As := [.int p0]) (b := this) (rest := []) 1 hc hr (fun l D tys base => ct7_firstPage l D tys base h this p0) (fun x hx => ob7_firstPage hx) rfl s7_firstPage w_496 rfl ⟨Nat.le_of_ble_eq_true rfl, Nat.le_of_ble_eq_true rfl⟩ ⟨Nat.le_of_ble_eq_true rfl, Nat.le_of_ble_eq_true rfl⟩ (Nat.le_of_ble_eq_true rfl) dX7_nowherePages_10) fun x10 => ?_
  refine v_istore (i := 4) (L' := [(4, .int x10), (3, .int x4), (2, .int (0 : Int32)), (0, .ref this), (1, .int p0)]) hc dX7_nowherePages_13 (hn 4 (Nat.le_of_ble_eq_true rfl)) rfl ?_
  refine v_sub (L' := [(0, .ref this), (2, .int (0 : Int32)), (3, .int x4), (4, .int x10)]) [3, 2, 1, 0] rfl ?_
  exact vl7_nowherePages_15 hc hr hq hL h this x4 FU (0 : Int32) x10
theorem s7_nowherePages : YV yX7_nowherePages RX7 cX7_nowherePages 5 (some .int) 1 := ⟨w_533, w_531, w_532, w_109, rfl, by decide +kernel, by decide +kernel, by decide +kernel⟩
def f7_ageOf (h : AH) (this : Nat) (p0 : Int32) : Option (Int32) := (hObj 7 h this).bind fun _ => (f7_pagesEnd h this p0).bind fun x2 => (f7_firstPage h this p0).bind fun x9 => (if x2 ≤ x9 then some (1900 : Int32) else (f7_dayOfPage h this (x2 - (1 : Int32))).bind fun x22 => if (365 : Int32) = 0 then none else (some (x22 / (365 : Int32))).bind fun z28 => some ((1900 : Int32) + z28))
theorem ob7_ageOf {h : AH} {this : Nat} {p0 : Int32} {x : Int32} (e : f7_ageOf h this p0 = some x) : ∃ fs, hObj 7 h this = some fs := by
  unfold f7_ageOf at e
  obtain ⟨fs, h1, -⟩ := bd e
  exact ⟨fs, h1⟩
set_option maxRecDepth 100000 in
theorem ct7_ageOf (l : Launch) (D : va_G) (tys : Tys) (base : Nat) (h : AH) (this : Nat) (p0 : Int32) : Ct l D tys base yX7_ageOf cX7_ageOf 3 (some .int) 3 85 0 0 [.ref this, .int p0] h (rI h) (f7_ageOf h this p0) := by
  refine Ct.intro (own := RX7) (L := [(0, .ref this), (1, .int p0)]) rfl (by decide) rfl (Nat.le_of_ble_eq_true rfl) fun κ hc hr hq hi hL => ?_
  have hn : ∀ i, i < 3 → i < κ.2.2.2.2.1 := fun i q => hL ▸ q
  unfold f7_ageOf
  refine v_obj ?_
  refine v_aload_n (i := 0) hc 0 rfl dX7_ageOf_0 rfl ?_
  refine v_iload_n (i := 1) hc 1 rfl dX7_ageOf_1 rfl ?_
  refine v_cI hc (m_V' (As := [.int p0]) (b := this) (rest := []) 1 hc hr (fun l D tys base => ct7_pagesEnd l D tys base h this p0) (fun x hx => ob7_pagesEnd hx) rfl s7_pagesEnd w_491 rfl ⟨Nat.le_of_ble_eq_true rfl, Nat.le_of_ble_eq_true rfl⟩ ⟨Nat.le_of_ble_eq_true rfl, Nat.le_of_ble_eq_true rfl⟩ (Nat.le_of_ble_eq_true rfl) dX7_ageOf_2) fun x2 => ?_
  refine v_istore_n (i := 2) (L' := [(2, .int x2), (0, .ref this), (1, .int p0)]) hc dX7_ageOf_5 rfl (hn 2 (Nat.le_of_ble_eq_true rfl)) rfl ?_
  refine v_iload_n (i := 2) hc 0 rfl dX7_ageOf_6 rfl ?_
  refine v_aload_n (i := 0) hc 1 rfl dX7_ageOf_7 rfl ?_
  refine v_iload_n (i := 1) hc 2 rfl dX7_ageOf_8 rfl ?_
  refine v_cI hc (m_V' (As := [.int p0]) (b := this) (rest := [.int x2]) 1 hc hr (fun l D tys base => ct7_firstPage l D tys base h this p0) (fun x hx => ob7_firstPage hx) rfl s7_firstPage w_496 rfl ⟨Nat.le_of_ble_eq_true rfl, Nat.le_of_ble_eq_true rfl⟩ ⟨Nat.le_of_ble_eq_true rfl, Nat.le_of_ble_eq_true rfl⟩ (Nat.le_of_ble_eq_true rfl) dX7_ageOf_9) fun x9 => ?_
  refine v_icmp_le hc 33 dX7_ageOf_12 rfl ?_ ?_
  · refine v_sipush (x := (1900 : Int32)) hc dX7_ageOf_33 zs_1900 ?_
    exact v_iret hc hq rfl rfl (Nat.le_of_ble_eq_true rfl) (Nat.le_of_ble_eq_true rfl) rfl dX7_ageOf_36
  · refine v_sipush (x := (1900 : Int32)) hc dX7_ageOf_15 zs_1900 ?_
    refine v_aload_n (i := 0) hc 1 rfl dX7_ageOf_18 rfl ?_
    refine v_iload_n (i := 2) hc 0 rfl dX7_ageOf_19 rfl ?_
    refine v_iconst (x := (1 : Int32)) hc dX7_ageOf_20 zi_1 ?_
    refine v_isub hc dX7_ageOf_21 ?_
    refine v_cI hc (m_V' (As := [.int (x2 - (1 : Int32))]) (b := this) (rest := [.int (1900 : Int32)]) 1 hc hr (fun l D tys base => ct7_dayOfPage l D tys base h this (x2 - (1 : Int32))) (fun x hx => ob7_dayOfPage hx) rfl s7_dayOfPage w_508 rfl ⟨Nat.le_of_ble_eq_true rfl, Nat.le_of_ble_eq_true rfl⟩ ⟨Nat.le_of_ble_eq_true rfl, Nat.le_of_ble_eq_true rfl⟩ (Nat.le_of_ble_eq_true rfl) dX7_ageOf_22) fun x22 => ?_
    refine v_sipush (x := (365 : Int32)) hc dX7_ageOf_25 zs_365 ?_
    refine v_idivN hc dX7_ageOf_28 fun z28 => ?_
    refine v_iadd hc dX7_ageOf_29 ?_
    refine v_goto hc 36 dX7_ageOf_30 rfl ?_
    exact v_iret hc hq rfl rfl (Nat.le_of_ble_eq_true rfl) (Nat.le_of_ble_eq_true rfl) rfl dX7_ageOf_36
theorem s7_ageOf : YV yX7_ageOf RX7 cX7_ageOf 3 (some .int) 1 := ⟨w_545, w_543, w_544, w_109, rfl, by decide +kernel, by decide +kernel, by decide +kernel⟩
def f7_tooYoung_23 (h : AH) (v0 : Nat) (v2 : Int32) (v3 : Int32) : Nat → Int32 → Int32 → Option (Int32)
  | 0, _, _ => none
  | n + 1, v4, v5 => (fR 7 1 h v0).bind fun x26 => (f5_size h x26).bind fun x29 => (if x29 ≤ v5 then some v4 else (f8_hasBit h v2 v5).bind fun x38 => (if x38 = true then (fR 7 1 h v0).bind fun x45 => (f5_at h x45 v5 (0 : Int32)).bind fun x51 => (if x51 ≤ v3 then (some (v5 + (1 : Int32))).bind fun x67 => f7_tooYoung_23 h v0 v2 v3 n v4 x67 else (some (v4 ||| ((1 : Int32) <<< (v5 &&& 31)))).bind fun x65 => (some (v5 + (1 : Int32))).bind fun x67 => f7_tooYoung_23 h v0 v2 v3 n x65 x67) else (some (v5 + (1 : Int32))).bind fun x67 => f7_tooYoung_23 h v0 v2 v3 n v4 x67))
set_option maxRecDepth 100000 in
theorem vl7_tooYoung_23 {κ : Kx} (hc : CX κ RX7 cX7_tooYoung) (hr : RX κ ({ frames := 4, cells := 0, slots := 0, locals := 107 } : Room)) (hq : QX κ (some .int) 0 0) (hL : 6 = κ.2.2.2.2.1)  (h : AH) (v0 : Nat) (v2 : Int32) (v3 : Int32) : ∀ n (v4 : Int32) (v5 : Int32), V κ (rI h) 0 0 23 [(0, .ref v0), (2, .int v2), (3, .int v3), (4, .int v4), (5, .int v5)] [] h (f7_tooYoung_23 h v0 v2 v3 n v4 v5) := by
  have hn : ∀ i, i < 6 → i < κ.2.2.2.2.1 := fun i q => hL ▸ q
  intro n
  induction n with
  | zero => intros; exact v_none
  | succ n ih =>
    intro v4 v5
    rw [f7_tooYoung_23.eq_2]
    refine v_iload (i := 5) hc 4 rfl dX7_tooYoung_23 ?_
    refine v_aload_n (i := 0) hc 0 rfl dX7_tooYoung_25 rfl ?_
    refine v_getV hc kX7 1 (by decide) w_181 rfl dX7_tooYoung_26 (gR rfl fun x26 => ?_)
    refine v_cI hc (m_V' (As := []) (b := x26) (rest := [.int v5]) 0 hc hr (fun l D tys base => ct5_size l D tys base h x26) (fun x hx => ob5_size hx) rfl s5_size w_556 rfl ⟨Nat.le_of_ble_eq_true rfl, Nat.le_of_ble_eq_true rfl⟩ ⟨Nat.le_of_ble_eq_true rfl, Nat.le_of_ble_eq_true rfl⟩ (Nat.le_of_ble_eq_true rfl) dX7_tooYoung_29) fun x29 => ?_
    refine v_icmp_ge hc 73 dX7_tooYoung_32 rfl ?_ ?_
    · refine v_iload (i := 4) hc 3 rfl dX7_tooYoung_73 ?_
      exact v_iret hc hq rfl rfl (Nat.le_of_ble_eq_true rfl) (Nat.le_of_ble_eq_true rfl) rfl dX7_tooYoung_75
    · refine v_iload_n (i := 2) hc 1 rfl dX7_tooYoung_35 rfl ?_
      refine v_iload (i := 5) hc 4 rfl dX7_tooYoung_36 ?_
      refine v_cB hc (m_SN' (As := [.int v2, .int v5]) (rest := []) 2 hc hr (fun l D tys base => ct8_hasBit l D tys base h v2 v5) s8_hasBit w_557 rfl ⟨Nat.le_of_ble_eq_true rfl, Nat.le_of_ble_eq_true rfl⟩ ⟨Nat.le_of_ble_eq_true rfl, Nat.le_of_ble_eq_true rfl⟩ (Nat.le_of_ble_eq_true rfl) dX7_tooYoung_38) fun x38 => ?_
      refine v_ifb_eq hc 67 dX7_tooYoung_41 rfl ?_ ?_
      · refine v_iincN (i := 5) (y := (1 : Int32)) (L' := fun z => [(5, .int z), (0, .ref v0), (2, .int v2), (3, .int v3), (4, .int v4)]) hc 4 rfl dX7_tooYoung_67 zi_1 (hn 5 (Nat.le_of_ble_eq_true rfl)) (fun _ => rfl) fun x67 => ?_
        refine v_goto hc 23 dX7_tooYoung_70 rfl ?_
        refine v_sub (L' := [(0, .ref v0), (2, .int v2), (3, .int v3), (4, .int v4), (5, .int x67)]) [1, 2, 3, 4, 0] rfl ?_
        exact ih v4 x67
      · refine v_aload_n (i := 0) hc 0 rfl dX7_tooYoung_44 rfl ?_
        refine v_getV hc kX7 1 (by decide) w_181 rfl dX7_tooYoung_45 (gR rfl fun x45 => ?_)
        refine v_iload (i := 5) hc 4 rfl dX7_tooYoung_48 ?_
        refine v_iconst (x := (0 : Int32)) hc dX7_tooYoung_50 zi_0 ?_
        refine v_cI hc (m_V' (As := [.int v5, .int (0 : Int32)]) (b := x45) (rest := []) 2 hc hr (fun l D tys base => ct5_at l D tys base h x45 v5 (0 : Int32)) (fun x hx => ob5_at hx) rfl s5_at w_554 rfl ⟨Nat.le_of_ble_eq_true rfl, Nat.le_of_ble_eq_true rfl⟩ ⟨Nat.le_of_ble_eq_true rfl, Nat.le_of_ble_eq_true rfl⟩ (Nat.le_of_ble_eq_true rfl) dX7_tooYoung_51) fun x51 => ?_
        refine v_iload_n (i := 3) hc 2 rfl dX7_tooYoung_54 rfl ?_
        refine v_icmp_le hc 67 dX7_tooYoung_55 rfl ?_ ?_
        · refine v_iincN (i := 5) (y := (1 : Int32)) (L' := fun z => [(5, .int z), (0, .ref v0), (2, .int v2), (3, .int v3), (4, .int v4)]) hc 4 rfl dX7_tooYoung_67 zi_1 (hn 5 (Nat.le_of_ble_eq_true rfl)) (fun _ => rfl) fun x67 => ?_
          refine v_goto hc 23 dX7_tooYoung_70 rfl ?_
          refine v_sub (L' := [(0, .ref v0), (2, .int v2), (3, .int v3), (4, .int v4), (5, .int x67)]) [1, 2, 3, 4, 0] rfl ?_
          exact ih v4 x67
        · refine v_iload (i := 4) hc 3 rfl dX7_tooYoung_58 ?_
          refine v_iconst (x := (1 : Int32)) hc dX7_tooYoung_60 zi_1 ?_
          refine v_iload (i := 5) hc 4 rfl dX7_tooYoung_61 ?_
          refine v_ishl hc dX7_tooYoung_63 ?_
          refine v_ior hc dX7_tooYoung_64 ?_
          refine v_nmI fun x65 => ?_
          refine v_istore (i := 4) (L' := [(4, .int x65), (0, .ref v0), (2, .int v2), (3, .int v3), (5, .int v5)]) hc dX7_tooYoung_65 (hn 4 (Nat.le_of_ble_eq_true rfl)) rfl ?_
          refine v_iincN (i := 5) (y := (1 : Int32)) (L' := fun z => [(5, .int z), (4, .int x65), (0, .ref v0), (2, .int v2), (3, .int v3)]) hc 4 rfl dX7_tooYoung_67 zi_1 (hn 5 (Nat.le_of_ble_eq_true rfl)) (fun _ => rfl) fun x67 => ?_
          refine v_goto hc 23 dX7_tooYoung_70 rfl ?_
          refine v_sub (L' := [(0, .ref v0), (2, .int v2), (3, .int v3), (4, .int x65), (5, .int x67)]) [2, 3, 4, 1, 0] rfl ?_
          exact ih x65 x67
def f7_tooYoung (h : AH) (this : Nat) (p0 : Int32) : Option (Int32) := (hObj 7 h this).bind fun _ => (fR 7 4 h this).bind fun x1 => (f5_at h x1 p0 (6 : Int32)).bind fun x7 => (f7_ageOf h this p0).bind fun x13 => f7_tooYoung_23 h this x7 x13 FU (0 : Int32) (0 : Int32)
theorem ob7_tooYoung {h : AH} {this : Nat} {p0 : Int32} {x : Int32} (e : f7_tooYoung h this p0 = some x) : ∃ fs, hObj 7 h this = some fs := by
  unfold f7_tooYoung at e
  obtain ⟨fs, h1, -⟩ := bd e
  exact ⟨fs, h1⟩
set_option maxRecDepth 100000 in
theorem ct7_tooYoung (l : Launch) (D : va_G) (tys : Tys) (base : Nat) (h : AH) (this : Nat) (p0 : Int32) : Ct l D tys base yX7_tooYoung cX7_tooYoung 6 (some .int) 4 107 0 0 [.ref this, .int p0] h (rI h) (f7_tooYoung h this p0) := by
  refine Ct.intro (own := RX7) (L := [(0, .ref this), (1, .int p0)]) rfl (by decide) rfl (Nat.le_of_ble_eq_true rfl) fun κ hc hr hq hi hL => ?_
  have hn : ∀ i, i < 6 → i < κ.2.2.2.2.1 := fun i q => hL ▸ q
  unfold f7_tooYoung
  refine v_obj ?_
  refine v_aload_n (i := 0) hc 0 rfl dX7_tooYoung_0 rfl ?_
  refine v_getV hc kX7 4 (by decide) w_189 rfl dX7_tooYoung_1 (gR rfl fun x1 => ?_)
  refine v_iload_n (i := 1) hc 1 rfl dX7_tooYoung_4 rfl ?_
  refine v_bipush (x := (6 : Int32)) hc dX7_tooYoung_5 zb_6 ?_
  refine v_cI hc (m_V' (As := [.int p0, .int (6 : Int32)]) (b := x1) (rest := []) 2 hc hr (fun l D tys base => ct5_at l D tys base h x1 p0 (6 : Int32)) (fun x hx => ob5_at hx) rfl s5_at w_554 rfl ⟨Nat.le_of_ble_eq_true rfl, Nat.le_of_ble_eq_true rfl⟩ ⟨Nat.le_of_ble_eq_true rfl, Nat.le_of_ble_eq_true rfl⟩ (Nat.le_of_ble_eq_true rfl) dX7_tooYoung_7) fun x7 => ?_
  refine v_istore_n (i := 2) (L' := [(2, .int x7), (0, .ref this), (1, .int p0)]) hc dX7_tooYoung_10 rfl (hn 2 (Nat.le_of_ble_eq_true rfl)) rfl ?_
  refine v_aload_n (i := 0) hc 1 rfl dX7_tooYoung_11 rfl ?_
  refine v_iload_n (i := 1) hc 2 rfl dX7_tooYoung_12 rfl ?_
  refine v_cI hc (m_V' (As := [.int p0]) (b := this) (rest := []) 1 hc hr (fun l D tys base => ct7_ageOf l D tys base h this p0) (fun x hx => ob7_ageOf hx) rfl s7_ageOf w_555 rfl ⟨Nat.le_of_ble_eq_true rfl, Nat.le_of_ble_eq_true rfl⟩ ⟨Nat.le_of_ble_eq_true rfl, Nat.le_of_ble_eq_true rfl⟩ (Nat.le_of_ble_eq_true rfl) dX7_tooYoung_13) fun x13 => ?_
  refine v_istore_n (i := 3) (L' := [(3, .int x13), (2, .int x7), (0, .ref this), (1, .int p0)]) hc dX7_tooYoung_16 rfl (hn 3 (Nat.le_of_ble_eq_true rfl)) rfl ?_
  refine v_iconst (x := (0 : Int32)) hc dX7_tooYoung_17 zi_0 ?_
  refine v_istore (i := 4) (L' := [(4, .int (0 : Int32)), (3, .int x13), (2, .int x7), (0, .ref this), (1, .int p0)]) hc dX7_tooYoung_18 (hn 4 (Nat.le_of_ble_eq_true rfl)) rfl ?_
  refine v_iconst (x := (0 : Int32)) hc dX7_tooYoung_20 zi_0 ?_
  refine v_istore (i := 5) (L' := [(5, .int (0 : Int32)), (4, .int (0 : Int32)), (3, .int x13), (2, .int x7), (0, .ref this), (1, .int p0)]) hc dX7_tooYoung_21 (hn 5 (Nat.le_of_ble_eq_true rfl)) rfl ?_
  refine v_sub (L' := [(0, .ref this), (2, .int x7), (3, .int x13), (4, .int (0 : Int32)), (5, .int (0 : Int32))]) [4, 3, 2, 1, 0] rfl ?_
  exact vl7_tooYoung_23 hc hr hq hL h this x7 x13 FU (0 : Int32) (0 : Int32)
theorem s7_tooYoung : YV yX7_tooYoung RX7 cX7_tooYoung 6 (some .int) 1 := ⟨w_553, w_551, w_552, w_109, rfl, by decide +kernel, by decide +kernel, by decide +kernel⟩
def f7_pagesSharedWith_16 (h : AH) (v0 : Nat) (v2 : Int32) (v4 : Int32) : Nat → Int32 → Int32 → Option (Int32)
  | 0, _, _ => none
  | n + 1, v3, v5 => (if v4 ≤ v5 then some v3 else (f7_sourcesOfPage h v0 v5).bind fun x26 => (f8_hasBit h x26 v2).bind fun x30 => (if x30 = true then (some (v3 + (1 : Int32))).bind fun x36 => (some (v5 + (1 : Int32))).bind fun x39 => f7_pagesSharedWith_16 h v0 v2 v4 n x36 x39 else (some (v5 + (1 : Int32))).bind fun x39 => f7_pagesSharedWith_16 h v0 v2 v4 n v3 x39))
set_option maxRecDepth 100000 in
theorem vl7_pagesSharedWith_16 {κ : Kx} (hc : CX κ RX7 cX7_pagesSharedWith) (hr : RX κ ({ frames := 4, cells := 0, slots := 0, locals := 112 } : Room)) (hq : QX κ (some .int) 0 0) (hL : 6 = κ.2.2.2.2.1)  (h : AH) (v0 : Nat) (v2 : Int32) (v4 : Int32) : ∀ n (v3 : Int32) (v5 : Int32), V κ (rI h) 0 0 16 [(0, .ref v0), (2, .int v2), (3, .int v3), (4, .int v4), (5, .int v5)] [] h (f7_pagesSharedWith_16 h v0 v2 v4 n v3 v5) := by
  have hn : ∀ i, i < 6 → i < κ.2.2.2.2.1 := fun i q => hL ▸ q
  intro n
  induction n with
  | zero => intros; exact v_none
  | succ n ih =>
    intro v3 v5
    rw [f7_pagesSharedWith_16.eq_2]
    refine v_iload (i := 5) hc 4 rfl dX7_pagesSharedWith_16 ?_
    refine v_iload (i := 4) hc 3 rfl dX7_pagesSharedWith_18 ?_
    refine v_icmp_ge hc 45 dX7_pagesSharedWith_20 rfl ?_ ?_
    · refine v_iload_n (i := 3) hc 2 rfl dX7_pagesSharedWith_45 rfl ?_
      exact v_iret hc hq rfl rfl (Nat.le_of_ble_eq_true rfl) (Nat.le_of_ble_eq_true rfl) rfl dX7_pagesSharedWith_46
    · refine v_aload_n (i := 0) hc 0 rfl dX7_pagesSharedWith_23 rfl ?_
      refine v_iload (i := 5) hc 4 rfl dX7_pagesSharedWith_24 ?_
      refine v_cI hc (m_V' (As := [.int v5]) (b := v0) (rest := []) 1 hc hr (fun l D tys base => ct7_sourcesOfPage l D tys base h v0 v5) (fun x hx => ob7_sourcesOfPage hx) rfl s7_sourcesOfPage w_526 rfl ⟨Nat.le_of_ble_eq_true rfl, Nat.le_of_ble_eq_true rfl⟩ ⟨Nat.le_of_ble_eq_true rfl, Nat.le_of_ble_eq_true rfl⟩ (Nat.le_of_ble_eq_true rfl) dX7_pagesSharedWith_26) fun x26 => ?_
      refine v_iload_n (i := 2) hc 1 rfl dX7_pagesSharedWith_29 rfl ?_
      refine v_cB hc (m_SN' (As := [.int x26, .int v2]) (rest := []) 2 hc hr (fun l D tys base => ct8_hasBit l D tys base h x26 v2) s8_hasBit w_557 rfl ⟨Nat.le_of_ble_eq_true rfl, Nat.le_of_ble_eq_true rfl⟩ ⟨Nat.le_of_ble_eq_true rfl, Nat.le_of_ble_eq_true rfl⟩ (Nat.le_of_ble_eq_true rfl) dX7_pagesSharedWith_30) fun x30 => ?_
      refine v_ifb_eq hc 39 dX7_pagesSharedWith_33 rfl ?_ ?_
      · refine v_iincN (i := 5) (y := (1 : Int32)) (L' := fun z => [(5, .int z), (0, .ref v0), (2, .int v2), (3, .int v3), (4, .int v4)]) hc 4 rfl dX7_pagesSharedWith_39 zi_1 (hn 5 (Nat.le_of_ble_eq_true rfl)) (fun _ => rfl) fun x39 => ?_
        refine v_goto hc 16 dX7_pagesSharedWith_42 rfl ?_
        refine v_sub (L' := [(0, .ref v0), (2, .int v2), (3, .int v3), (4, .int v4), (5, .int x39)]) [1, 2, 3, 4, 0] rfl ?_
        exact ih v3 x39
      · refine v_iincN (i := 3) (y := (1 : Int32)) (L' := fun z => [(3, .int z), (0, .ref v0), (2, .int v2), (4, .int v4), (5, .int v5)]) hc 2 rfl dX7_pagesSharedWith_36 zi_1 (hn 3 (Nat.le_of_ble_eq_true rfl)) (fun _ => rfl) fun x36 => ?_
        refine v_iincN (i := 5) (y := (1 : Int32)) (L' := fun z => [(5, .int z), (3, .int x36), (0, .ref v0), (2, .int v2), (4, .int v4)]) hc 4 rfl dX7_pagesSharedWith_39 zi_1 (hn 5 (Nat.le_of_ble_eq_true rfl)) (fun _ => rfl) fun x39 => ?_
        refine v_goto hc 16 dX7_pagesSharedWith_42 rfl ?_
        refine v_sub (L' := [(0, .ref v0), (2, .int v2), (3, .int x36), (4, .int v4), (5, .int x39)]) [2, 3, 1, 4, 0] rfl ?_
        exact ih x36 x39
def f7_pagesSharedWith (h : AH) (this : Nat) (p0 : Int32) (p1 : Int32) : Option (Int32) := (hObj 7 h this).bind fun _ => (f7_pagesEnd h this p0).bind fun x4 => (f7_firstPage h this p0).bind fun x11 => f7_pagesSharedWith_16 h this p1 x4 FU (0 : Int32) x11
theorem ob7_pagesSharedWith {h : AH} {this : Nat} {p0 : Int32} {p1 : Int32} {x : Int32} (e : f7_pagesSharedWith h this p0 p1 = some x) : ∃ fs, hObj 7 h this = some fs := by
  unfold f7_pagesSharedWith at e
  obtain ⟨fs, h1, -⟩ := bd e
  exact ⟨fs, h1⟩
set_option maxRecDepth 100000 in
theorem ct7_pagesSharedWith (l : Launch) (D : va_G) (tys : Tys) (base : Nat) (h : AH) (this : Nat) (p0 : Int32) (p1 : Int32) : Ct l D tys base yX7_pagesSharedWith cX7_pagesSharedWith 6 (some .int) 4 112 0 0 [.ref this, .int p0, .int p1] h (rI h) (f7_pagesSharedWith h this p0 p1) := by
  refine Ct.intro (own := RX7) (L := [(0, .ref this), (1, .int p0), (2, .int p1)]) rfl (by decide) rfl (Nat.le_of_ble_eq_true rfl) fun κ hc hr hq hi hL => ?_
  have hn : ∀ i, i < 6 → i < κ.2.2.2.2.1 := fun i q => hL ▸ q
  unfold f7_pagesSharedWith
  refine v_obj ?_
  refine v_iconst (x := (0 : Int32)) hc dX7_pagesSharedWith_0 zi_0 ?_
  refine v_istore_n (i := 3) (L' := [(3, .int (0 : Int32)), (0, .ref this), (1, .int p0), (2, .int p1)]) hc dX7_pagesSharedWith_1 rfl (hn 3 (Nat.le_of_ble_eq_true rfl)) rfl ?_
  refine v_aload_n (i := 0) hc 1 rfl dX7_pagesSharedWith_2 rfl ?_
  refine v_iload_n (i := 1) hc 2 rfl dX7_pagesSharedWith_3 rfl ?_
  refine v_cI hc (m_V' (As := [.int p0]) (b := this) (rest := []) 1 hc hr (fun l D tys base => ct7_pagesEnd l D tys base h this p0) (fun x hx => ob7_pagesEnd hx) rfl s7_pagesEnd w_491 rfl ⟨Nat.le_of_ble_eq_true rfl, Nat.le_of_ble_eq_true rfl⟩ ⟨Nat.le_of_ble_eq_true rfl, Nat.le_of_ble_eq_true rfl⟩ (Nat.le_of_ble_eq_true rfl) dX7_pagesSharedWith_4) fun x4 => ?_
  refine v_istore (i := 4) (L' := [(4, .int x4), (3, .int (0 : Int32)), (0, .ref this), (1, .int p0), (2, .int p1)]) hc dX7_pagesSharedWith_7 (hn 4 (Nat.le_of_ble_eq_true rfl)) rfl ?_
  refine v_aload_n (i := 0) hc 2 rfl dX7_pagesSharedWith_9 rfl ?_
  refine v_iload_n (i := 1) hc 3 rfl dX7_pagesSharedWith_10 rfl ?_
  refine v_cI hc (m_V' (As := [.int p0]) (b := this) (rest := []) 1 hc hr (fun l D tys base => ct7_firstPage l D tys base h this p0) (fun x hx => ob7_firstPage hx) rfl s7_firstPage w_496 rfl ⟨Nat.le_of_ble_eq_true rfl, Nat.le_of_ble_eq_true rfl⟩ ⟨Nat.le_of_ble_eq_true rfl, Nat.le_of_ble_eq_true rfl⟩ (Nat.le_of_ble_eq_true rfl) dX7_pagesSharedWith_11) fun x11 => ?_
  refine v_istore (i := 5) (L' := [(5, .int x11), (4, .int x4), (3, .int (0 : Int32)), (0, .ref this), (1, .int p0), (2, .int p1)]) hc dX7_pagesSharedWith_14 (hn 5 (Nat.le_of_ble_eq_true rfl)) rfl ?_
  refine v_sub (L' := [(0, .ref this), (2, .int p1), (3, .int (0 : Int32)), (4, .int x4), (5, .int x11)]) [3, 5, 2, 1, 0] rfl ?_
  exact vl7_pagesSharedWith_16 hc hr hq hL h this p1 x4 FU (0 : Int32) x11
theorem s7_pagesSharedWith : YV yX7_pagesSharedWith RX7 cX7_pagesSharedWith 6 (some .int) 2 := ⟨w_567, w_565, w_566, w_109, rfl, by decide +kernel, by decide +kernel, by decide +kernel⟩
def f7_areUnlike (h : AH) (this : Nat) (p0 : Int32) (p1 : Int32) : Option (Bool) := (hObj 7 h this).bind fun _ => (fR 7 4 h this).bind fun x1 => (f5_has h x1 p0).bind fun x5 => (if x5 = true then (fR 7 4 h this).bind fun x12 => (f5_has h x12 p1).bind fun x16 => (if x16 = true then (if p0 = p1 then some false else some true) else some false) else some false)
theorem ob7_areUnlike {h : AH} {this : Nat} {p0 : Int32} {p1 : Int32} {x : Bool} (e : f7_areUnlike h this p0 p1 = some x) : ∃ fs, hObj 7 h this = some fs := by
  unfold f7_areUnlike at e
  obtain ⟨fs, h1, -⟩ := bd e
  exact ⟨fs, h1⟩
set_option maxRecDepth 100000 in
theorem ct7_areUnlike (l : Launch) (D : va_G) (tys : Tys) (base : Nat) (h : AH) (this : Nat) (p0 : Int32) (p1 : Int32) : Ct l D tys base yX7_areUnlike cX7_areUnlike 3 (some .boolean) 1 21 0 0 [.ref this, .int p0, .int p1] h (rB h) (f7_areUnlike h this p0 p1) := by
  refine Ct.intro (own := RX7) (L := [(0, .ref this), (1, .int p0), (2, .int p1)]) rfl (by decide) rfl (Nat.le_of_ble_eq_true rfl) fun κ hc hr hq hi hL => ?_
  have hn : ∀ i, i < 3 → i < κ.2.2.2.2.1 := fun i q => hL ▸ q
  unfold f7_areUnlike
  refine v_obj ?_
  refine v_aload_n (i := 0) hc 0 rfl dX7_areUnlike_0 rfl ?_
  refine v_getV hc kX7 4 (by decide) w_189 rfl dX7_areUnlike_1 (gR rfl fun x1 => ?_)
  refine v_iload_n (i := 1) hc 1 rfl dX7_areUnlike_4 rfl ?_
  refine v_cB hc (m_V' (As := [.int p0]) (b := x1) (rest := []) 1 hc hr (fun l D tys base => ct5_has l D tys base h x1 p0) (fun x hx => ob5_has hx) rfl s5_has w_797 rfl ⟨Nat.le_of_ble_eq_true rfl, Nat.le_of_ble_eq_true rfl⟩ ⟨Nat.le_of_ble_eq_true rfl, Nat.le_of_ble_eq_true rfl⟩ (Nat.le_of_ble_eq_true rfl) dX7_areUnlike_5) fun x5 => ?_
  refine v_ifb_eq hc 31 dX7_areUnlike_8 rfl ?_ ?_
  · refine v_iconst (x := (0 : Int32)) hc dX7_areUnlike_31 zi_0 ?_
    exact v_iret (v := bI false) hc hq rfl (nar_b false) (Nat.le_of_ble_eq_true rfl) (Nat.le_of_ble_eq_true rfl) rfl dX7_areUnlike_32
  · refine v_aload_n (i := 0) hc 0 rfl dX7_areUnlike_11 rfl ?_
    refine v_getV hc kX7 4 (by decide) w_189 rfl dX7_areUnlike_12 (gR rfl fun x12 => ?_)
    refine v_iload_n (i := 2) hc 2 rfl dX7_areUnlike_15 rfl ?_
    refine v_cB hc (m_V' (As := [.int p1]) (b := x12) (rest := []) 1 hc hr (fun l D tys base => ct5_has l D tys base h x12 p1) (fun x hx => ob5_has hx) rfl s5_has w_797 rfl ⟨Nat.le_of_ble_eq_true rfl, Nat.le_of_ble_eq_true rfl⟩ ⟨Nat.le_of_ble_eq_true rfl, Nat.le_of_ble_eq_true rfl⟩ (Nat.le_of_ble_eq_true rfl) dX7_areUnlike_16) fun x16 => ?_
    refine v_ifb_eq hc 31 dX7_areUnlike_19 rfl ?_ ?_
    · refine v_iconst (x := (0 : Int32)) hc dX7_areUnlike_31 zi_0 ?_
      exact v_iret (v := bI false) hc hq rfl (nar_b false) (Nat.le_of_ble_eq_true rfl) (Nat.le_of_ble_eq_true rfl) rfl dX7_areUnlike_32
    · refine v_iload_n (i := 1) hc 1 rfl dX7_areUnlike_22 rfl ?_
      refine v_iload_n (i := 2) hc 2 rfl dX7_areUnlike_23 rfl ?_
      refine v_icmp_eq hc 31 dX7_areUnlike_24 rfl ?_ ?_
      · refine v_iconst (x := (0 : Int32)) hc dX7_areUnlike_31 zi_0 ?_
        exact v_iret (v := bI false) hc hq rfl (nar_b false) (Nat.le_of_ble_eq_true rfl) (Nat.le_of_ble_eq_true rfl) rfl dX7_areUnlike_32
      · refine v_iconst (x := (1 : Int32)) hc dX7_areUnlike_27 zi_1 ?_
        refine v_goto hc 32 dX7_areUnlike_28 rfl ?_
        exact v_iret (v := bI true) hc hq rfl (nar_b true) (Nat.le_of_ble_eq_true rfl) (Nat.le_of_ble_eq_true rfl) rfl dX7_areUnlike_32
theorem s7_areUnlike : YV yX7_areUnlike RX7 cX7_areUnlike 3 (some .boolean) 2 := ⟨w_796, w_794, w_795, w_109, rfl, by decide +kernel, by decide +kernel, by decide +kernel⟩
def f7_apart_5 (h : AH) (v0 : Nat) (v1 : Int32) (v2 : Int32) : Nat → Int32 → Int32 → Option (Int32)
  | 0, _, _ => none
  | n + 1, v3, v4 => (if (6 : Int32) ≤ v4 then some v3 else (fR 7 4 h v0).bind fun x14 => (f5_at h x14 v1 v4).bind fun x20 => (fR 7 4 h v0).bind fun x24 => (f5_at h x24 v2 v4).bind fun x30 => (some (if 0 ≤ (x20 - x30) then (x20 - x30) else 0 - (x20 - x30))).bind fun z34 => (some (v3 + z34)).bind fun x38 => (some (v4 + (1 : Int32))).bind fun x39 => f7_apart_5 h v0 v1 v2 n x38 x39)
set_option maxRecDepth 100000 in
theorem vl7_apart_5 {κ : Kx} (hc : CX κ RX7 cX7_apart) (hr : RX κ ({ frames := 3, cells := 0, slots := 0, locals := 66 } : Room)) (hq : QX κ (some .int) 0 0) (hL : 5 = κ.2.2.2.2.1)  (h : AH) (v0 : Nat) (v1 : Int32) (v2 : Int32) : ∀ n (v3 : Int32) (v4 : Int32), V κ (rI h) 0 0 5 [(0, .ref v0), (1, .int v1), (2, .int v2), (3, .int v3), (4, .int v4)] [] h (f7_apart_5 h v0 v1 v2 n v3 v4) := by
  have hn : ∀ i, i < 5 → i < κ.2.2.2.2.1 := fun i q => hL ▸ q
  intro n
  induction n with
  | zero => intros; exact v_none
  | succ n ih =>
    intro v3 v4
    rw [f7_apart_5.eq_2]
    refine v_iload (i := 4) hc 4 rfl dX7_apart_5 ?_
    refine v_bipush (x := (6 : Int32)) hc dX7_apart_7 zb_6 ?_
    refine v_icmp_ge hc 45 dX7_apart_9 rfl ?_ ?_
    · refine v_iload_n (i := 3) hc 3 rfl dX7_apart_45 rfl ?_
      exact v_iret hc hq rfl rfl (Nat.le_of_ble_eq_true rfl) (Nat.le_of_ble_eq_true rfl) rfl dX7_apart_46
    · refine v_iload_n (i := 3) hc 3 rfl dX7_apart_12 rfl ?_
      refine v_aload_n (i := 0) hc 0 rfl dX7_apart_13 rfl ?_
      refine v_getV hc kX7 4 (by decide) w_189 rfl dX7_apart_14 (gR rfl fun x14 => ?_)
      refine v_iload_n (i := 1) hc 1 rfl dX7_apart_17 rfl ?_
      refine v_iload (i := 4) hc 4 rfl dX7_apart_18 ?_
      refine v_cI hc (m_V' (As := [.int v1, .int v4]) (b := x14) (rest := [.int v3]) 2 hc hr (fun l D tys base => ct5_at l D tys base h x14 v1 v4) (fun x hx => ob5_at hx) rfl s5_at w_554 rfl ⟨Nat.le_of_ble_eq_true rfl, Nat.le_of_ble_eq_true rfl⟩ ⟨Nat.le_of_ble_eq_true rfl, Nat.le_of_ble_eq_true rfl⟩ (Nat.le_of_ble_eq_true rfl) dX7_apart_20) fun x20 => ?_
      refine v_aload_n (i := 0) hc 0 rfl dX7_apart_23 rfl ?_
      refine v_getV hc kX7 4 (by decide) w_189 rfl dX7_apart_24 (gR rfl fun x24 => ?_)
      refine v_iload_n (i := 2) hc 2 rfl dX7_apart_27 rfl ?_
      refine v_iload (i := 4) hc 4 rfl dX7_apart_28 ?_
      refine v_cI hc (m_V' (As := [.int v2, .int v4]) (b := x24) (rest := [.int x20, .int v3]) 2 hc hr (fun l D tys base => ct5_at l D tys base h x24 v2 v4) (fun x hx => ob5_at hx) rfl s5_at w_554 rfl ⟨Nat.le_of_ble_eq_true rfl, Nat.le_of_ble_eq_true rfl⟩ ⟨Nat.le_of_ble_eq_true rfl, Nat.le_of_ble_eq_true rfl⟩ (Nat.le_of_ble_eq_true rfl) dX7_apart_30) fun x30 => ?_
      refine v_isub hc dX7_apart_33 ?_
      refine v_mabs hc hr w_810 w_811 w_111 w_812 (Nat.le_of_ble_eq_true rfl) (Nat.le_of_ble_eq_true rfl) (Nat.le_of_ble_eq_true rfl) (Nat.le_of_ble_eq_true rfl) dX7_apart_34 (v_nmI fun z34 => ?_)
      refine v_iadd hc dX7_apart_37 ?_
      refine v_nmI fun x38 => ?_
      refine v_istore_n (i := 3) (L' := [(3, .int x38), (0, .ref v0), (1, .int v1), (2, .int v2), (4, .int v4)]) hc dX7_apart_38 rfl (hn 3 (Nat.le_of_ble_eq_true rfl)) rfl ?_
      refine v_iincN (i := 4) (y := (1 : Int32)) (L' := fun z => [(4, .int z), (3, .int x38), (0, .ref v0), (1, .int v1), (2, .int v2)]) hc 4 rfl dX7_apart_39 zi_1 (hn 4 (Nat.le_of_ble_eq_true rfl)) (fun _ => rfl) fun x39 => ?_
      refine v_goto hc 5 dX7_apart_42 rfl ?_
      refine v_sub (L' := [(0, .ref v0), (1, .int v1), (2, .int v2), (3, .int x38), (4, .int x39)]) [2, 3, 4, 1, 0] rfl ?_
      exact ih x38 x39
def f7_apart (h : AH) (this : Nat) (p0 : Int32) (p1 : Int32) : Option (Int32) := (hObj 7 h this).bind fun _ => f7_apart_5 h this p0 p1 FU (0 : Int32) (1 : Int32)
theorem ob7_apart {h : AH} {this : Nat} {p0 : Int32} {p1 : Int32} {x : Int32} (e : f7_apart h this p0 p1 = some x) : ∃ fs, hObj 7 h this = some fs := by
  unfold f7_apart at e
  obtain ⟨fs, h1, -⟩ := bd e
  exact ⟨fs, h1⟩
set_option maxRecDepth 100000 in
theorem ct7_apart (l : Launch) (D : va_G) (tys : Tys) (base : Nat) (h : AH) (this : Nat) (p0 : Int32) (p1 : Int32) : Ct l D tys base yX7_apart cX7_apart 5 (some .int) 3 66 0 0 [.ref this, .int p0, .int p1] h (rI h) (f7_apart h this p0 p1) := by
  refine Ct.intro (own := RX7) (L := [(0, .ref this), (1, .int p0), (2, .int p1)]) rfl (by decide) rfl (Nat.le_of_ble_eq_true rfl) fun κ hc hr hq hi hL => ?_
  have hn : ∀ i, i < 5 → i < κ.2.2.2.2.1 := fun i q => hL ▸ q
  unfold f7_apart
  refine v_obj ?_
  refine v_iconst (x := (0 : Int32)) hc dX7_apart_0 zi_0 ?_
  refine v_istore_n (i := 3) (L' := [(3, .int (0 : Int32)), (0, .ref this), (1, .int p0), (2, .int p1)]) hc dX7_apart_1 rfl (hn 3 (Nat.le_of_ble_eq_true rfl)) rfl ?_
  refine v_iconst (x := (1 : Int32)) hc dX7_apart_2 zi_1 ?_
  refine v_istore (i := 4) (L' := [(4, .int (1 : Int32)), (3, .int (0 : Int32)), (0, .ref this), (1, .int p0), (2, .int p1)]) hc dX7_apart_3 (hn 4 (Nat.le_of_ble_eq_true rfl)) rfl ?_
  refine v_sub (L' := [(0, .ref this), (1, .int p0), (2, .int p1), (3, .int (0 : Int32)), (4, .int (1 : Int32))]) [2, 3, 4, 1, 0] rfl ?_
  exact vl7_apart_5 hc hr hq hL h this p0 p1 FU (0 : Int32) (1 : Int32)
theorem s7_apart : YV yX7_apart RX7 cX7_apart 5 (some .int) 2 := ⟨w_809, w_808, w_29, w_109, rfl, by decide +kernel, by decide +kernel, by decide +kernel⟩
def f7_late_23 (h : AH) (v0 : Nat) (v2 : Int32) (v3 : Int32) : Nat → Int32 → Int32 → Option (Int32)
  | 0, _, _ => none
  | n + 1, v4, v5 => (fR 7 1 h v0).bind fun x26 => (f5_size h x26).bind fun x29 => (if x29 ≤ v5 then some v4 else (f8_hasBit h v2 v5).bind fun x38 => (if x38 = true then (fR 7 1 h v0).bind fun x47 => (f5_at h x47 v5 (0 : Int32)).bind fun x53 => (some (if v4 < (x53 - v3) then (x53 - v3) else v4)).bind fun z58 => (some (v5 + (1 : Int32))).bind fun x63 => f7_late_23 h v0 v2 v3 n z58 x63 else (some (v5 + (1 : Int32))).bind fun x63 => f7_late_23 h v0 v2 v3 n v4 x63))
set_option maxRecDepth 100000 in
theorem vl7_late_23 {κ : Kx} (hc : CX κ RX7 cX7_late) (hr : RX κ ({ frames := 4, cells := 0, slots := 0, locals := 107 } : Room)) (hq : QX κ (some .int) 0 0) (hL : 6 = κ.2.2.2.2.1)  (h : AH) (v0 : Nat) (v2 : Int32) (v3 : Int32) : ∀ n (v4 : Int32) (v5 : Int32), V κ (rI h) 0 0 23 [(0, .ref v0), (2, .int v2), (3, .int v3), (4, .int v4), (5, .int v5)] [] h (f7_late_23 h v0 v2 v3 n v4 v5) := by
  have hn : ∀ i, i < 6 → i < κ.2.2.2.2.1 := fun i q => hL ▸ q
  intro n
  induction n with
  | zero => intros; exact v_none
  | succ n ih =>
    intro v4 v5
    rw [f7_late_23.eq_2]
    refine v_iload (i := 5) hc 4 rfl dX7_late_23 ?_
    refine v_aload_n (i := 0) hc 0 rfl dX7_late_25 rfl ?_
    refine v_getV hc kX7 1 (by decide) w_181 rfl dX7_late_26 (gR rfl fun x26 => ?_)
    refine v_cI hc (m_V' (As := []) (b := x26) (rest := [.int v5]) 0 hc hr (fun l D tys base => ct5_size l D tys base h x26) (fun x hx => ob5_size hx) rfl s5_size w_556 rfl ⟨Nat.le_of_ble_eq_true rfl, Nat.le_of_ble_eq_true rfl⟩ ⟨Nat.le_of_ble_eq_true rfl, Nat.le_of_ble_eq_true rfl⟩ (Nat.le_of_ble_eq_true rfl) dX7_late_29) fun x29 => ?_
    refine v_icmp_ge hc 69 dX7_late_32 rfl ?_ ?_
    · refine v_iload (i := 4) hc 3 rfl dX7_late_69 ?_
      exact v_iret hc hq rfl rfl (Nat.le_of_ble_eq_true rfl) (Nat.le_of_ble_eq_true rfl) rfl dX7_late_71
    · refine v_iload_n (i := 2) hc 1 rfl dX7_late_35 rfl ?_
      refine v_iload (i := 5) hc 4 rfl dX7_late_36 ?_
      refine v_cB hc (m_SN' (As := [.int v2, .int v5]) (rest := []) 2 hc hr (fun l D tys base => ct8_hasBit l D tys base h v2 v5) s8_hasBit w_557 rfl ⟨Nat.le_of_ble_eq_true rfl, Nat.le_of_ble_eq_true rfl⟩ ⟨Nat.le_of_ble_eq_true rfl, Nat.le_of_ble_eq_true rfl⟩ (Nat.le_of_ble_eq_true rfl) dX7_late_38) fun x38 => ?_
      refine v_ifb_eq hc 63 dX7_late_41 rfl ?_ ?_
      · refine v_iincN (i := 5) (y := (1 : Int32)) (L' := fun z => [(5, .int z), (0, .ref v0), (2, .int v2), (3, .int v3), (4, .int v4)]) hc 4 rfl dX7_late_63 zi_1 (hn 5 (Nat.le_of_ble_eq_true rfl)) (fun _ => rfl) fun x63 => ?_
        refine v_goto hc 23 dX7_late_66 rfl ?_
        refine v_sub (L' := [(0, .ref v0), (2, .int v2), (3, .int v3), (4, .int v4), (5, .int x63)]) [1, 2, 3, 4, 0] rfl ?_
        exact ih v4 x63
      · refine v_iload (i := 4) hc 3 rfl dX7_late_44 ?_
        refine v_aload_n (i := 0) hc 0 rfl dX7_late_46 rfl ?_
        refine v_getV hc kX7 1 (by decide) w_181 rfl dX7_late_47 (gR rfl fun x47 => ?_)
        refine v_iload (i := 5) hc 4 rfl dX7_late_50 ?_
        refine v_iconst (x := (0 : Int32)) hc dX7_late_52 zi_0 ?_
        refine v_cI hc (m_V' (As := [.int v5, .int (0 : Int32)]) (b := x47) (rest := [.int v4]) 2 hc hr (fun l D tys base => ct5_at l D tys base h x47 v5 (0 : Int32)) (fun x hx => ob5_at hx) rfl s5_at w_554 rfl ⟨Nat.le_of_ble_eq_true rfl, Nat.le_of_ble_eq_true rfl⟩ ⟨Nat.le_of_ble_eq_true rfl, Nat.le_of_ble_eq_true rfl⟩ (Nat.le_of_ble_eq_true rfl) dX7_late_53) fun x53 => ?_
        refine v_iload_n (i := 3) hc 2 rfl dX7_late_56 rfl ?_
        refine v_isub hc dX7_late_57 ?_
        refine v_mmax hc hr w_817 w_146 w_111 w_147 (Nat.le_of_ble_eq_true rfl) (Nat.le_of_ble_eq_true rfl) (Nat.le_of_ble_eq_true rfl) (Nat.le_of_ble_eq_true rfl) dX7_late_58 (v_nmI fun z58 => ?_)
        refine v_istore (i := 4) (L' := [(4, .int z58), (0, .ref v0), (2, .int v2), (3, .int v3), (5, .int v5)]) hc dX7_late_61 (hn 4 (Nat.le_of_ble_eq_true rfl)) rfl ?_
        refine v_iincN (i := 5) (y := (1 : Int32)) (L' := fun z => [(5, .int z), (4, .int z58), (0, .ref v0), (2, .int v2), (3, .int v3)]) hc 4 rfl dX7_late_63 zi_1 (hn 5 (Nat.le_of_ble_eq_true rfl)) (fun _ => rfl) fun x63 => ?_
        refine v_goto hc 23 dX7_late_66 rfl ?_
        refine v_sub (L' := [(0, .ref v0), (2, .int v2), (3, .int v3), (4, .int z58), (5, .int x63)]) [2, 3, 4, 1, 0] rfl ?_
        exact ih z58 x63
def f7_late (h : AH) (this : Nat) (p0 : Int32) : Option (Int32) := (hObj 7 h this).bind fun _ => (fR 7 4 h this).bind fun x1 => (f5_at h x1 p0 (6 : Int32)).bind fun x7 => (f7_ageOf h this p0).bind fun x13 => f7_late_23 h this x7 x13 FU (0 : Int32) (0 : Int32)
theorem ob7_late {h : AH} {this : Nat} {p0 : Int32} {x : Int32} (e : f7_late h this p0 = some x) : ∃ fs, hObj 7 h this = some fs := by
  unfold f7_late at e
  obtain ⟨fs, h1, -⟩ := bd e
  exact ⟨fs, h1⟩
set_option maxRecDepth 100000 in
theorem ct7_late (l : Launch) (D : va_G) (tys : Tys) (base : Nat) (h : AH) (this : Nat) (p0 : Int32) : Ct l D tys base yX7_late cX7_late 6 (some .int) 4 107 0 0 [.ref this, .int p0] h (rI h) (f7_late h this p0) := by
  refine Ct.intro (own := RX7) (L := [(0, .ref this), (1, .int p0)]) rfl (by decide) rfl (Nat.le_of_ble_eq_true rfl) fun κ hc hr hq hi hL => ?_
  have hn : ∀ i, i < 6 → i < κ.2.2.2.2.1 := fun i q => hL ▸ q
  unfold f7_late
  refine v_obj ?_
  refine v_aload_n (i := 0) hc 0 rfl dX7_late_0 rfl ?_
  refine v_getV hc kX7 4 (by decide) w_189 rfl dX7_late_1 (gR rfl fun x1 => ?_)
  refine v_iload_n (i := 1) hc 1 rfl dX7_late_4 rfl ?_
  refine v_bipush (x := (6 : Int32)) hc dX7_late_5 zb_6 ?_
  refine v_cI hc (m_V' (As := [.int p0, .int (6 : Int32)]) (b := x1) (rest := []) 2 hc hr (fun l D tys base => ct5_at l D tys base h x1 p0 (6 : Int32)) (fun x hx => ob5_at hx) rfl s5_at w_554 rfl ⟨Nat.le_of_ble_eq_true rfl, Nat.le_of_ble_eq_true rfl⟩ ⟨Nat.le_of_ble_eq_true rfl, Nat.le_of_ble_eq_true rfl⟩ (Nat.le_of_ble_eq_true rfl) dX7_late_7) fun x7 => ?_
  refine v_istore_n (i := 2) (L' := [(2, .int x7), (0, .ref this), (1, .int p0)]) hc dX7_late_10 rfl (hn 2 (Nat.le_of_ble_eq_true rfl)) rfl ?_
  refine v_aload_n (i := 0) hc 1 rfl dX7_late_11 rfl ?_
  refine v_iload_n (i := 1) hc 2 rfl dX7_late_12 rfl ?_
  refine v_cI hc (m_V' (As := [.int p0]) (b := this) (rest := []) 1 hc hr (fun l D tys base => ct7_ageOf l D tys base h this p0) (fun x hx => ob7_ageOf hx) rfl s7_ageOf w_555 rfl ⟨Nat.le_of_ble_eq_true rfl, Nat.le_of_ble_eq_true rfl⟩ ⟨Nat.le_of_ble_eq_true rfl, Nat.le_of_ble_eq_true rfl⟩ (Nat.le_of_ble_eq_true rfl) dX7_late_13) fun x13 => ?_
  refine v_istore_n (i := 3) (L' := [(3, .int x13), (2, .int x7), (0, .ref this), (1, .int p0)]) hc dX7_late_16 rfl (hn 3 (Nat.le_of_ble_eq_true rfl)) rfl ?_
  refine v_iconst (x := (0 : Int32)) hc dX7_late_17 zi_0 ?_
  refine v_istore (i := 4) (L' := [(4, .int (0 : Int32)), (3, .int x13), (2, .int x7), (0, .ref this), (1, .int p0)]) hc dX7_late_18 (hn 4 (Nat.le_of_ble_eq_true rfl)) rfl ?_
  refine v_iconst (x := (0 : Int32)) hc dX7_late_20 zi_0 ?_
  refine v_istore (i := 5) (L' := [(5, .int (0 : Int32)), (4, .int (0 : Int32)), (3, .int x13), (2, .int x7), (0, .ref this), (1, .int p0)]) hc dX7_late_21 (hn 5 (Nat.le_of_ble_eq_true rfl)) rfl ?_
  refine v_sub (L' := [(0, .ref this), (2, .int x7), (3, .int x13), (4, .int (0 : Int32)), (5, .int (0 : Int32))]) [4, 3, 2, 1, 0] rfl ?_
  exact vl7_late_23 hc hr hq hL h this x7 x13 FU (0 : Int32) (0 : Int32)
theorem s7_late : YV yX7_late RX7 cX7_late 6 (some .int) 1 := ⟨w_816, w_815, w_30, w_109, rfl, by decide +kernel, by decide +kernel, by decide +kernel⟩
def f7_isVolume (h : AH) (this : Nat) (p0 : Int32) : Option (Bool) := (hObj 7 h this).bind fun _ => (fR 7 4 h this).bind fun x1 => (f5_at h x1 p0 (0 : Int32)).bind fun x6 => (if x6 = 0 then some true else some false)
theorem ob7_isVolume {h : AH} {this : Nat} {p0 : Int32} {x : Bool} (e : f7_isVolume h this p0 = some x) : ∃ fs, hObj 7 h this = some fs := by
  unfold f7_isVolume at e
  obtain ⟨fs, h1, -⟩ := bd e
  exact ⟨fs, h1⟩
set_option maxRecDepth 100000 in
theorem ct7_isVolume (l : Launch) (D : va_G) (tys : Tys) (base : Nat) (h : AH) (this : Nat) (p0 : Int32) : Ct l D tys base yX7_isVolume cX7_isVolume 2 (some .boolean) 3 66 0 0 [.ref this, .int p0] h (rB h) (f7_isVolume h this p0) := by
  refine Ct.intro (own := RX7) (L := [(0, .ref this), (1, .int p0)]) rfl (by decide) rfl (Nat.le_of_ble_eq_true rfl) fun κ hc hr hq hi hL => ?_
  have hn : ∀ i, i < 2 → i < κ.2.2.2.2.1 := fun i q => hL ▸ q
  unfold f7_isVolume
  refine v_obj ?_
  refine v_aload_n (i := 0) hc 0 rfl dX7_isVolume_0 rfl ?_
  refine v_getV hc kX7 4 (by decide) w_189 rfl dX7_isVolume_1 (gR rfl fun x1 => ?_)
  refine v_iload_n (i := 1) hc 1 rfl dX7_isVolume_4 rfl ?_
  refine v_iconst (x := (0 : Int32)) hc dX7_isVolume_5 zi_0 ?_
  refine v_cI hc (m_V' (As := [.int p0, .int (0 : Int32)]) (b := x1) (rest := []) 2 hc hr (fun l D tys base => ct5_at l D tys base h x1 p0 (0 : Int32)) (fun x hx => ob5_at hx) rfl s5_at w_554 rfl ⟨Nat.le_of_ble_eq_true rfl, Nat.le_of_ble_eq_true rfl⟩ ⟨Nat.le_of_ble_eq_true rfl, Nat.le_of_ble_eq_true rfl⟩ (Nat.le_of_ble_eq_true rfl) dX7_isVolume_6) fun x6 => ?_
  refine v_if_ne hc 16 dX7_isVolume_9 rfl ?_ ?_
  · refine v_iconst (x := (0 : Int32)) hc dX7_isVolume_16 zi_0 ?_
    exact v_iret (v := bI false) hc hq rfl (nar_b false) (Nat.le_of_ble_eq_true rfl) (Nat.le_of_ble_eq_true rfl) rfl dX7_isVolume_17
  · refine v_iconst (x := (1 : Int32)) hc dX7_isVolume_12 zi_1 ?_
    refine v_goto hc 17 dX7_isVolume_13 rfl ?_
    exact v_iret (v := bI true) hc hq rfl (nar_b true) (Nat.le_of_ble_eq_true rfl) (Nat.le_of_ble_eq_true rfl) rfl dX7_isVolume_17
theorem s7_isVolume : YV yX7_isVolume RX7 cX7_isVolume 2 (some .boolean) 1 := ⟨w_829, w_828, w_31, w_109, rfl, by decide +kernel, by decide +kernel, by decide +kernel⟩
def f7_volumes_4 (h : AH) (v0 : Nat) : Nat → Int32 → Int32 → Option (Int32)
  | 0, _, _ => none
  | n + 1, v1, v2 => (fR 7 4 h v0).bind fun x6 => (f5_size h x6).bind fun x9 => (if x9 ≤ v2 then some v1 else (f7_isVolume h v0 v2).bind fun x17 => (if x17 = true then (some (v1 + (1 : Int32))).bind fun x23 => (some (v2 + (1 : Int32))).bind fun x26 => f7_volumes_4 h v0 n x23 x26 else (some (v2 + (1 : Int32))).bind fun x26 => f7_volumes_4 h v0 n v1 x26))
set_option maxRecDepth 100000 in
theorem vl7_volumes_4 {κ : Kx} (hc : CX κ RX7 cX7_volumes) (hr : RX κ ({ frames := 4, cells := 0, slots := 0, locals := 87 } : Room)) (hq : QX κ (some .int) 0 0) (hL : 3 = κ.2.2.2.2.1)  (h : AH) (v0 : Nat) : ∀ n (v1 : Int32) (v2 : Int32), V κ (rI h) 0 0 4 [(0, .ref v0), (1, .int v1), (2, .int v2)] [] h (f7_volumes_4 h v0 n v1 v2) := by
  have hn : ∀ i, i < 3 → i < κ.2.2.2.2.1 := fun i q => hL ▸ q
  intro n
  induction n with
  | zero => intros; exact v_none
  | succ n ih =>
    intro v1 v2
    rw [f7_volumes_4.eq_2]
    refine v_iload_n (i := 2) hc 2 rfl dX7_volumes_4 rfl ?_
    refine v_aload_n (i := 0) hc 0 rfl dX7_volumes_5 rfl ?_
    refine v_getV hc kX7 4 (by decide) w_189 rfl dX7_volumes_6 (gR rfl fun x6 => ?_)
    refine v_cI hc (m_V' (As := []) (b := x6) (rest := [.int v2]) 0 hc hr (fun l D tys base => ct5_size l D tys base h x6) (fun x hx => ob5_size hx) rfl s5_size w_556 rfl ⟨Nat.le_of_ble_eq_true rfl, Nat.le_of_ble_eq_true rfl⟩ ⟨Nat.le_of_ble_eq_true rfl, Nat.le_of_ble_eq_true rfl⟩ (Nat.le_of_ble_eq_true rfl) dX7_volumes_9) fun x9 => ?_
    refine v_icmp_ge hc 32 dX7_volumes_12 rfl ?_ ?_
    · refine v_iload_n (i := 1) hc 1 rfl dX7_volumes_32 rfl ?_
      exact v_iret hc hq rfl rfl (Nat.le_of_ble_eq_true rfl) (Nat.le_of_ble_eq_true rfl) rfl dX7_volumes_33
    · refine v_aload_n (i := 0) hc 0 rfl dX7_volumes_15 rfl ?_
      refine v_iload_n (i := 2) hc 2 rfl dX7_volumes_16 rfl ?_
      refine v_cB hc (m_V' (As := [.int v2]) (b := v0) (rest := []) 1 hc hr (fun l D tys base => ct7_isVolume l D tys base h v0 v2) (fun x hx => ob7_isVolume hx) rfl s7_isVolume w_826 rfl ⟨Nat.le_of_ble_eq_true rfl, Nat.le_of_ble_eq_true rfl⟩ ⟨Nat.le_of_ble_eq_true rfl, Nat.le_of_ble_eq_true rfl⟩ (Nat.le_of_ble_eq_true rfl) dX7_volumes_17) fun x17 => ?_
      refine v_ifb_eq hc 26 dX7_volumes_20 rfl ?_ ?_
      · refine v_iincN (i := 2) (y := (1 : Int32)) (L' := fun z => [(2, .int z), (0, .ref v0), (1, .int v1)]) hc 2 rfl dX7_volumes_26 zi_1 (hn 2 (Nat.le_of_ble_eq_true rfl)) (fun _ => rfl) fun x26 => ?_
        refine v_goto hc 4 dX7_volumes_29 rfl ?_
        refine v_sub (L' := [(0, .ref v0), (1, .int v1), (2, .int x26)]) [1, 2, 0] rfl ?_
        exact ih v1 x26
      · refine v_iincN (i := 1) (y := (1 : Int32)) (L' := fun z => [(1, .int z), (0, .ref v0), (2, .int v2)]) hc 1 rfl dX7_volumes_23 zi_1 (hn 1 (Nat.le_of_ble_eq_true rfl)) (fun _ => rfl) fun x23 => ?_
        refine v_iincN (i := 2) (y := (1 : Int32)) (L' := fun z => [(2, .int z), (1, .int x23), (0, .ref v0)]) hc 2 rfl dX7_volumes_26 zi_1 (hn 2 (Nat.le_of_ble_eq_true rfl)) (fun _ => rfl) fun x26 => ?_
        refine v_goto hc 4 dX7_volumes_29 rfl ?_
        refine v_sub (L' := [(0, .ref v0), (1, .int x23), (2, .int x26)]) [2, 1, 0] rfl ?_
        exact ih x23 x26
def f7_volumes (h : AH) (this : Nat) : Option (Int32) := (hObj 7 h this).bind fun _ => f7_volumes_4 h this FU (0 : Int32) (0 : Int32)
theorem ob7_volumes {h : AH} {this : Nat} {x : Int32} (e : f7_volumes h this = some x) : ∃ fs, hObj 7 h this = some fs := by
  unfold f7_volumes at e
  obtain ⟨fs, h1, -⟩ := bd e
  exact ⟨fs, h1⟩
set_option maxRecDepth 100000 in
theorem ct7_volumes (l : Launch) (D : va_G) (tys : Tys) (base : Nat) (h : AH) (this : Nat) : Ct l D tys base yX7_volumes cX7_volumes 3 (some .int) 4 87 0 0 [.ref this] h (rI h) (f7_volumes h this) := by
  refine Ct.intro (own := RX7) (L := [(0, .ref this)]) rfl (by decide) rfl (Nat.le_of_ble_eq_true rfl) fun κ hc hr hq hi hL => ?_
  have hn : ∀ i, i < 3 → i < κ.2.2.2.2.1 := fun i q => hL ▸ q
  unfold f7_volumes
  refine v_obj ?_
  refine v_iconst (x := (0 : Int32)) hc dX7_volumes_0 zi_0 ?_
  refine v_istore_n (i := 1) (L' := [(1, .int (0 : Int32)), (0, .ref this)]) hc dX7_volumes_1 rfl (hn 1 (Nat.le_of_ble_eq_true rfl)) rfl ?_
  refine v_iconst (x := (0 : Int32)) hc dX7_volumes_2 zi_0 ?_
  refine v_istore_n (i := 2) (L' := [(2, .int (0 : Int32)), (1, .int (0 : Int32)), (0, .ref this)]) hc dX7_volumes_3 rfl (hn 2 (Nat.le_of_ble_eq_true rfl)) rfl ?_
  refine v_sub (L' := [(0, .ref this), (1, .int (0 : Int32)), (2, .int (0 : Int32))]) [2, 1, 0] rfl ?_
  exact vl7_volumes_4 hc hr hq hL h this FU (0 : Int32) (0 : Int32)
theorem s7_volumes : YV yX7_volumes RX7 cX7_volumes 3 (some .int) 0 := ⟨w_825, w_823, w_824, w_109, rfl, by decide +kernel, by decide +kernel, by decide +kernel⟩
def f7_fillWords_37 (h : AH) (v0 : Nat) (v1 : Nat) (v2 : Int32) (s0 : Nat) (s1 : Int32) (s2 : Bool) : Option (AH) := (sI 0 h s0 s1 (bI s2)).bind fun h37 => (f7_late h37 v0 v2).bind fun x42 => (sI 0 h37 v1 (2 : Int32) x42).bind fun h45 => (f7_wrongPages h45 v0 v2).bind fun x50 => (sI 0 h45 v1 (3 : Int32) x50).bind fun h53 => (f7_sharedPages h53 v0 v2).bind fun x58 => (sI 0 h53 v1 (4 : Int32) x58).bind fun h61 => (f7_nowherePages h61 v0 v2).bind fun x66 => (sI 0 h61 v1 (5 : Int32) x66).bind fun h69 => (f7_pagesOf h69 v0 v2).bind fun x75 => (sI 0 h69 v1 (6 : Int32) x75).bind fun h78 => (fR 7 4 h78 v0).bind fun x83 => (f5_at h78 x83 v2 (7 : Int32)).bind fun x89 => (sI 0 h78 v1 (7 : Int32) x89).bind fun h92 => (fI 7 0 h92 v0).bind fun x97 => (sI 0 h92 v1 (8 : Int32) x97).bind fun h100 => (f7_volumes h100 v0).bind fun x105 => (sI 0 h100 v1 (9 : Int32) x105).bind fun h108 => some h108
set_option maxRecDepth 100000 in
theorem vl7_fillWords_37 {κ : Kx} (hc : CX κ RX7 cX7_fillWords) (hr : RX κ ({ frames := 5, cells := 0, slots := 0, locals := 136 } : Room)) (hq : QX κ none 0 0) (hL : 4 = κ.2.2.2.2.1) (h : AH) (v0 : Nat) (v1 : Nat) (v2 : Int32) (s0 : Nat) (s1 : Int32) (s2 : Bool) : V κ (wV) 0 0 37 [(0, .ref v0), (1, .ref v1), (2, .int v2)] [.int (bI s2), .int s1, .ref s0] h (f7_fillWords_37 h v0 v1 v2 s0 s1 s2) := by
  have hn : ∀ i, i < 4 → i < κ.2.2.2.2.1 := fun i q => hL ▸ q
  unfold f7_fillWords_37
  refine v_iast hc dX7_fillWords_37 fun h37 => ?_
  refine v_aload_n (i := 1) hc 1 rfl dX7_fillWords_38 rfl ?_
  refine v_iconst (x := (2 : Int32)) hc dX7_fillWords_39 zi_2 ?_
  refine v_aload_n (i := 0) hc 0 rfl dX7_fillWords_40 rfl ?_
  refine v_iload_n (i := 2) hc 2 rfl dX7_fillWords_41 rfl ?_
  refine v_cI hc (m_V' (As := [.int v2]) (b := v0) (rest := [.int (2 : Int32), .ref v1]) 1 hc hr (fun l D tys base => ct7_late l D tys base h37 v0 v2) (fun x hx => ob7_late hx) rfl s7_late w_813 rfl ⟨Nat.le_of_ble_eq_true rfl, Nat.le_of_ble_eq_true rfl⟩ ⟨Nat.le_of_ble_eq_true rfl, Nat.le_of_ble_eq_true rfl⟩ (Nat.le_of_ble_eq_true rfl) dX7_fillWords_42) fun x42 => ?_
  refine v_iast hc dX7_fillWords_45 fun h45 => ?_
  refine v_aload_n (i := 1) hc 1 rfl dX7_fillWords_46 rfl ?_
  refine v_iconst (x := (3 : Int32)) hc dX7_fillWords_47 zi_3 ?_
  refine v_aload_n (i := 0) hc 0 rfl dX7_fillWords_48 rfl ?_
  refine v_iload_n (i := 2) hc 2 rfl dX7_fillWords_49 rfl ?_
  refine v_cI hc (m_V' (As := [.int v2]) (b := v0) (rest := [.int (3 : Int32), .ref v1]) 1 hc hr (fun l D tys base => ct7_wrongPages l D tys base h45 v0 v2) (fun x hx => ob7_wrongPages hx) rfl s7_wrongPages w_818 rfl ⟨Nat.le_of_ble_eq_true rfl, Nat.le_of_ble_eq_true rfl⟩ ⟨Nat.le_of_ble_eq_true rfl, Nat.le_of_ble_eq_true rfl⟩ (Nat.le_of_ble_eq_true rfl) dX7_fillWords_50) fun x50 => ?_
  refine v_iast hc dX7_fillWords_53 fun h53 => ?_
  refine v_aload_n (i := 1) hc 1 rfl dX7_fillWords_54 rfl ?_
  refine v_iconst (x := (4 : Int32)) hc dX7_fillWords_55 zi_4 ?_
  refine v_aload_n (i := 0) hc 0 rfl dX7_fillWords_56 rfl ?_
  refine v_iload_n (i := 2) hc 2 rfl dX7_fillWords_57 rfl ?_
  refine v_cI hc (m_V' (As := [.int v2]) (b := v0) (rest := [.int (4 : Int32), .ref v1]) 1 hc hr (fun l D tys base => ct7_sharedPages l D tys base h53 v0 v2) (fun x hx => ob7_sharedPages hx) rfl s7_sharedPages w_819 rfl ⟨Nat.le_of_ble_eq_true rfl, Nat.le_of_ble_eq_true rfl⟩ ⟨Nat.le_of_ble_eq_true rfl, Nat.le_of_ble_eq_true rfl⟩ (Nat.le_of_ble_eq_true rfl) dX7_fillWords_58) fun x58 => ?_
  refine v_iast hc dX7_fillWords_61 fun h61 => ?_
  refine v_aload_n (i := 1) hc 1 rfl dX7_fillWords_62 rfl ?_
  refine v_iconst (x := (5 : Int32)) hc dX7_fillWords_63 zi_5 ?_
  refine v_aload_n (i := 0) hc 0 rfl dX7_fillWords_64 rfl ?_
  refine v_iload_n (i := 2) hc 2 rfl dX7_fillWords_65 rfl ?_
  refine v_cI hc (m_V' (As := [.int v2]) (b := v0) (rest := [.int (5 : Int32), .ref v1]) 1 hc hr (fun l D tys base => ct7_nowherePages l D tys base h61 v0 v2) (fun x hx => ob7_nowherePages hx) rfl s7_nowherePages w_820 rfl ⟨Nat.le_of_ble_eq_true rfl, Nat.le_of_ble_eq_true rfl⟩ ⟨Nat.le_of_ble_eq_true rfl, Nat.le_of_ble_eq_true rfl⟩ (Nat.le_of_ble_eq_true rfl) dX7_fillWords_66) fun x66 => ?_
  refine v_iast hc dX7_fillWords_69 fun h69 => ?_
  refine v_aload_n (i := 1) hc 1 rfl dX7_fillWords_70 rfl ?_
  refine v_bipush (x := (6 : Int32)) hc dX7_fillWords_71 zb_6 ?_
  refine v_aload_n (i := 0) hc 0 rfl dX7_fillWords_73 rfl ?_
  refine v_iload_n (i := 2) hc 2 rfl dX7_fillWords_74 rfl ?_
  refine v_cI hc (m_V' (As := [.int v2]) (b := v0) (rest := [.int (6 : Int32), .ref v1]) 1 hc hr (fun l D tys base => ct7_pagesOf l D tys base h69 v0 v2) (fun x hx => ob7_pagesOf hx) rfl s7_pagesOf w_821 rfl ⟨Nat.le_of_ble_eq_true rfl, Nat.le_of_ble_eq_true rfl⟩ ⟨Nat.le_of_ble_eq_true rfl, Nat.le_of_ble_eq_true rfl⟩ (Nat.le_of_ble_eq_true rfl) dX7_fillWords_75) fun x75 => ?_
  refine v_iast hc dX7_fillWords_78 fun h78 => ?_
  refine v_aload_n (i := 1) hc 1 rfl dX7_fillWords_79 rfl ?_
  refine v_bipush (x := (7 : Int32)) hc dX7_fillWords_80 zb_7 ?_
  refine v_aload_n (i := 0) hc 0 rfl dX7_fillWords_82 rfl ?_
  refine v_getV hc kX7 4 (by decide) w_189 rfl dX7_fillWords_83 (gR rfl fun x83 => ?_)
  refine v_iload_n (i := 2) hc 2 rfl dX7_fillWords_86 rfl ?_
  refine v_bipush (x := (7 : Int32)) hc dX7_fillWords_87 zb_7 ?_
  refine v_cI hc (m_V' (As := [.int v2, .int (7 : Int32)]) (b := x83) (rest := [.int (7 : Int32), .ref v1]) 2 hc hr (fun l D tys base => ct5_at l D tys base h78 x83 v2 (7 : Int32)) (fun x hx => ob5_at hx) rfl s5_at w_554 rfl ⟨Nat.le_of_ble_eq_true rfl, Nat.le_of_ble_eq_true rfl⟩ ⟨Nat.le_of_ble_eq_true rfl, Nat.le_of_ble_eq_true rfl⟩ (Nat.le_of_ble_eq_true rfl) dX7_fillWords_89) fun x89 => ?_
  refine v_iast hc dX7_fillWords_92 fun h92 => ?_
  refine v_aload_n (i := 1) hc 1 rfl dX7_fillWords_93 rfl ?_
  refine v_bipush (x := (8 : Int32)) hc dX7_fillWords_94 zb_8 ?_
  refine v_aload_n (i := 0) hc 0 rfl dX7_fillWords_96 rfl ?_
  refine v_getV hc kX7 0 (by decide) w_179 rfl dX7_fillWords_97 (gI rfl fun x97 => ?_)
  refine v_iast hc dX7_fillWords_100 fun h100 => ?_
  refine v_aload_n (i := 1) hc 1 rfl dX7_fillWords_101 rfl ?_
  refine v_bipush (x := (9 : Int32)) hc dX7_fillWords_102 zb_9 ?_
  refine v_aload_n (i := 0) hc 0 rfl dX7_fillWords_104 rfl ?_
  refine v_cI hc (m_V' (As := []) (b := v0) (rest := [.int (9 : Int32), .ref v1]) 0 hc hr (fun l D tys base => ct7_volumes l D tys base h100 v0) (fun x hx => ob7_volumes hx) rfl s7_volumes w_822 rfl ⟨Nat.le_of_ble_eq_true rfl, Nat.le_of_ble_eq_true rfl⟩ ⟨Nat.le_of_ble_eq_true rfl, Nat.le_of_ble_eq_true rfl⟩ (Nat.le_of_ble_eq_true rfl) dX7_fillWords_105) fun x105 => ?_
  refine v_iast hc dX7_fillWords_108 fun h108 => ?_
  exact v_vret hc hq (Nat.le_of_ble_eq_true rfl) (Nat.le_of_ble_eq_true rfl) rfl dX7_fillWords_109
def f7_fillWords (h : AH) (this : Nat) (p0 : Nat) (p1 : Int32) (p2 : Int32) : Option (AH) := (hObj 7 h this).bind fun _ => (aN h p0).bind fun x1 => (if (10 : Int32) ≤ x1 then (f7_apart h this p1 p2).bind fun x13 => (sI 0 h p0 (0 : Int32) x13).bind fun h16 => (fR 7 4 h16 this).bind fun x20 => (f5_at h16 x20 p2 (0 : Int32)).bind fun x25 => (if x25 = (1 : Int32) then f7_fillWords_37 h16 this p0 p1 p0 (1 : Int32) false else f7_fillWords_37 h16 this p0 p1 p0 (1 : Int32) true) else some h)
theorem ob7_fillWords {h : AH} {this : Nat} {p0 : Nat} {p1 : Int32} {p2 : Int32} {x : AH} (e : f7_fillWords h this p0 p1 p2 = some x) : ∃ fs, hObj 7 h this = some fs := by
  unfold f7_fillWords at e
  obtain ⟨fs, h1, -⟩ := bd e
  exact ⟨fs, h1⟩
set_option maxRecDepth 100000 in
theorem ct7_fillWords (l : Launch) (D : va_G) (tys : Tys) (base : Nat) (h : AH) (this : Nat) (p0 : Nat) (p1 : Int32) (p2 : Int32) : Ct l D tys base yX7_fillWords cX7_fillWords 4 none 5 136 0 0 [.ref this, .ref p0, .int p1, .int p2] h (wV) (f7_fillWords h this p0 p1 p2) := by
  refine Ct.intro (own := RX7) (L := [(0, .ref this), (1, .ref p0), (2, .int p1), (3, .int p2)]) rfl (by decide) rfl (Nat.le_of_ble_eq_true rfl) fun κ hc hr hq hi hL => ?_
  have hn : ∀ i, i < 4 → i < κ.2.2.2.2.1 := fun i q => hL ▸ q
  unfold f7_fillWords
  refine v_obj ?_
  refine v_aload_n (i := 1) hc 1 rfl dX7_fillWords_0 rfl ?_
  refine v_alen hc dX7_fillWords_1 fun x1 => ?_
  refine v_bipush (x := (10 : Int32)) hc dX7_fillWords_2 zb_10 ?_
  refine v_icmp_ge hc 8 dX7_fillWords_4 rfl ?_ ?_
  · refine v_aload_n (i := 1) hc 1 rfl dX7_fillWords_8 rfl ?_
    refine v_iconst (x := (0 : Int32)) hc dX7_fillWords_9 zi_0 ?_
    refine v_aload_n (i := 0) hc 0 rfl dX7_fillWords_10 rfl ?_
    refine v_iload_n (i := 2) hc 2 rfl dX7_fillWords_11 rfl ?_
    refine v_iload_n (i := 3) hc 3 rfl dX7_fillWords_12 rfl ?_
    refine v_cI hc (m_V' (As := [.int p1, .int p2]) (b := this) (rest := [.int (0 : Int32), .ref p0]) 2 hc hr (fun l D tys base => ct7_apart l D tys base h this p1 p2) (fun x hx => ob7_apart hx) rfl s7_apart w_806 rfl ⟨Nat.le_of_ble_eq_true rfl, Nat.le_of_ble_eq_true rfl⟩ ⟨Nat.le_of_ble_eq_true rfl, Nat.le_of_ble_eq_true rfl⟩ (Nat.le_of_ble_eq_true rfl) dX7_fillWords_13) fun x13 => ?_
    refine v_iast hc dX7_fillWords_16 fun h16 => ?_
    refine v_aload_n (i := 1) hc 1 rfl dX7_fillWords_17 rfl ?_
    refine v_iconst (x := (1 : Int32)) hc dX7_fillWords_18 zi_1 ?_
    refine v_aload_n (i := 0) hc 0 rfl dX7_fillWords_19 rfl ?_
    refine v_getV hc kX7 4 (by decide) w_189 rfl dX7_fillWords_20 (gR rfl fun x20 => ?_)
    refine v_iload_n (i := 3) hc 3 rfl dX7_fillWords_23 rfl ?_
    refine v_iconst (x := (0 : Int32)) hc dX7_fillWords_24 zi_0 ?_
    refine v_cI hc (m_V' (As := [.int p2, .int (0 : Int32)]) (b := x20) (rest := [.int (1 : Int32), .ref p0]) 2 hc hr (fun l D tys base => ct5_at l D tys base h16 x20 p2 (0 : Int32)) (fun x hx => ob5_at hx) rfl s5_at w_554 rfl ⟨Nat.le_of_ble_eq_true rfl, Nat.le_of_ble_eq_true rfl⟩ ⟨Nat.le_of_ble_eq_true rfl, Nat.le_of_ble_eq_true rfl⟩ (Nat.le_of_ble_eq_true rfl) dX7_fillWords_25) fun x25 => ?_
    refine v_iconst (x := (1 : Int32)) hc dX7_fillWords_28 zi_1 ?_
    refine v_icmp_ne hc 36 dX7_fillWords_29 rfl ?_ ?_
    · refine v_iconst (x := (1 : Int32)) hc dX7_fillWords_36 zi_1 ?_
      refine v_sub (L' := [(0, .ref this), (1, .ref p0), (2, .int p1)]) [0, 1, 2] rfl ?_
      exact vl7_fillWords_37 hc hr hq hL h16 this p0 p1 p0 (1 : Int32) true
    · refine v_iconst (x := (0 : Int32)) hc dX7_fillWords_32 zi_0 ?_
      refine v_goto hc 37 dX7_fillWords_33 rfl ?_
      refine v_sub (L' := [(0, .ref this), (1, .ref p0), (2, .int p1)]) [0, 1, 2] rfl ?_
      exact vl7_fillWords_37 hc hr hq hL h16 this p0 p1 p0 (1 : Int32) false
  · exact v_vret hc hq (Nat.le_of_ble_eq_true rfl) (Nat.le_of_ble_eq_true rfl) rfl dX7_fillWords_7
theorem s7_fillWords : YV yX7_fillWords RX7 cX7_fillWords 4 none 3 := ⟨w_805, w_803, w_804, w_109, rfl, by decide +kernel, by decide +kernel, by decide +kernel⟩
def f7_isKeptClose (h : AH) (this : Nat) (p0 : Int32) : Option (Bool) := (hObj 7 h this).bind fun _ => (fI 7 0 h this).bind fun x1 => (fR 7 4 h this).bind fun x5 => (f5_at h x5 p0 (9 : Int32)).bind fun x11 => (if x11 ≤ x1 then some false else some true)
theorem ob7_isKeptClose {h : AH} {this : Nat} {p0 : Int32} {x : Bool} (e : f7_isKeptClose h this p0 = some x) : ∃ fs, hObj 7 h this = some fs := by
  unfold f7_isKeptClose at e
  obtain ⟨fs, h1, -⟩ := bd e
  exact ⟨fs, h1⟩
set_option maxRecDepth 100000 in
theorem ct7_isKeptClose (l : Launch) (D : va_G) (tys : Tys) (base : Nat) (h : AH) (this : Nat) (p0 : Int32) : Ct l D tys base yX7_isKeptClose cX7_isKeptClose 2 (some .boolean) 3 66 0 0 [.ref this, .int p0] h (rB h) (f7_isKeptClose h this p0) := by
  refine Ct.intro (own := RX7) (L := [(0, .ref this), (1, .int p0)]) rfl (by decide) rfl (Nat.le_of_ble_eq_true rfl) fun κ hc hr hq hi hL => ?_
  have hn : ∀ i, i < 2 → i < κ.2.2.2.2.1 := fun i q => hL ▸ q
  unfold f7_isKeptClose
  refine v_obj ?_
  refine v_aload_n (i := 0) hc 0 rfl dX7_isKeptClose_0 rfl ?_
  refine v_getV hc kX7 0 (by decide) w_179 rfl dX7_isKeptClose_1 (gI rfl fun x1 => ?_)
  refine v_aload_n (i := 0) hc 0 rfl dX7_isKeptClose_4 rfl ?_
  refine v_getV hc kX7 4 (by decide) w_189 rfl dX7_isKeptClose_5 (gR rfl fun x5 => ?_)
  refine v_iload_n (i := 1) hc 1 rfl dX7_isKeptClose_8 rfl ?_
  refine v_bipush (x := (9 : Int32)) hc dX7_isKeptClose_9 zb_9 ?_
  refine v_cI hc (m_V' (As := [.int p0, .int (9 : Int32)]) (b := x5) (rest := [.int x1]) 2 hc hr (fun l D tys base => ct5_at l D tys base h x5 p0 (9 : Int32)) (fun x hx => ob5_at hx) rfl s5_at w_554 rfl ⟨Nat.le_of_ble_eq_true rfl, Nat.le_of_ble_eq_true rfl⟩ ⟨Nat.le_of_ble_eq_true rfl, Nat.le_of_ble_eq_true rfl⟩ (Nat.le_of_ble_eq_true rfl) dX7_isKeptClose_11) fun x11 => ?_
  refine v_icmp_ge hc 21 dX7_isKeptClose_14 rfl ?_ ?_
  · refine v_iconst (x := (0 : Int32)) hc dX7_isKeptClose_21 zi_0 ?_
    exact v_iret (v := bI false) hc hq rfl (nar_b false) (Nat.le_of_ble_eq_true rfl) (Nat.le_of_ble_eq_true rfl) rfl dX7_isKeptClose_22
  · refine v_iconst (x := (1 : Int32)) hc dX7_isKeptClose_17 zi_1 ?_
    refine v_goto hc 22 dX7_isKeptClose_18 rfl ?_
    exact v_iret (v := bI true) hc hq rfl (nar_b true) (Nat.le_of_ble_eq_true rfl) (Nat.le_of_ble_eq_true rfl) rfl dX7_isKeptClose_22
theorem s7_isKeptClose : YV yX7_isKeptClose RX7 cX7_isKeptClose 2 (some .boolean) 1 := ⟨w_874, w_872, w_873, w_109, rfl, by decide +kernel, by decide +kernel, by decide +kernel⟩
def f7_standUpTo_54 (k9 : Int32 → Option (Int32)) (h : AH) (v0 : Nat) (v1 : Int32) (v2 : Int32) (v3 : Int32) (v4 : Int32) (s0 : Bool) : Option (Int32) := (if s0 = true then (fR 7 7 h v0).bind fun x63 => (f5_at h x63 v4 (1 : Int32)).bind fun x69 => (f8_hasBit h v3 x69).bind fun x72 => (if x72 = true then some (3 : Int32) else (some (v4 + (1 : Int32))).bind fun x80 => k9 x80) else (some (v4 + (1 : Int32))).bind fun x80 => k9 x80)
set_option maxRecDepth 100000 in
theorem vl7_standUpTo_54 {κ : Kx} (hc : CX κ RX7 cX7_standUpTo) (hr : RX κ ({ frames := 5, cells := 0, slots := 0, locals := 132 } : Room)) (hq : QX κ (some .int) 0 0) (hL : 8 = κ.2.2.2.2.1) (k9 : Int32 → Option (Int32)) (h : AH) (v0 : Nat) (v1 : Int32) (v2 : Int32) (v3 : Int32) (hk9 : ∀ (v4 : Int32), V κ (rI h) 0 0 9 [(0, .ref v0), (1, .int v1), (2, .int v2), (3, .int v3), (4, .int v4)] [] h (k9 v4)) (v4 : Int32) (s0 : Bool) : V κ (rI h) 0 0 54 [(0, .ref v0), (1, .int v1), (2, .int v2), (3, .int v3), (4, .int v4)] [.int (bI s0)] h (f7_standUpTo_54 k9 h v0 v1 v2 v3 v4 s0) := by
  have hn : ∀ i, i < 8 → i < κ.2.2.2.2.1 := fun i q => hL ▸ q
  unfold f7_standUpTo_54
  refine v_istore (i := 5) (L' := [(5, .int (bI s0)), (0, .ref v0), (1, .int v1), (2, .int v2), (3, .int v3), (4, .int v4)]) hc dX7_standUpTo_54 (hn 5 (Nat.le_of_ble_eq_true rfl)) rfl ?_
  refine v_iload (i := 5) hc 0 rfl dX7_standUpTo_56 ?_
  refine v_ifb_eq hc 80 dX7_standUpTo_58 rfl ?_ ?_
  · refine v_iincN (i := 4) (y := (1 : Int32)) (L' := fun z => [(4, .int z), (5, .int (bI s0)), (0, .ref v0), (1, .int v1), (2, .int v2), (3, .int v3)]) hc 5 rfl dX7_standUpTo_80 zi_1 (hn 4 (Nat.le_of_ble_eq_true rfl)) (fun _ => rfl) fun x80 => ?_
    refine v_goto hc 9 dX7_standUpTo_83 rfl ?_
    refine v_sub (L' := [(0, .ref v0), (1, .int v1), (2, .int v2), (3, .int v3), (4, .int x80)]) [2, 3, 4, 5, 0] rfl ?_
    exact hk9 x80
  · refine v_iload_n (i := 3) hc 4 rfl dX7_standUpTo_61 rfl ?_
    refine v_aload_n (i := 0) hc 1 rfl dX7_standUpTo_62 rfl ?_
    refine v_getV hc kX7 7 (by decide) w_197 rfl dX7_standUpTo_63 (gR rfl fun x63 => ?_)
    refine v_iload (i := 4) hc 5 rfl dX7_standUpTo_66 ?_
    refine v_iconst (x := (1 : Int32)) hc dX7_standUpTo_68 zi_1 ?_
    refine v_cI hc (m_V' (As := [.int v4, .int (1 : Int32)]) (b := x63) (rest := [.int v3]) 2 hc hr (fun l D tys base => ct5_at l D tys base h x63 v4 (1 : Int32)) (fun x hx => ob5_at hx) rfl s5_at w_554 rfl ⟨Nat.le_of_ble_eq_true rfl, Nat.le_of_ble_eq_true rfl⟩ ⟨Nat.le_of_ble_eq_true rfl, Nat.le_of_ble_eq_true rfl⟩ (Nat.le_of_ble_eq_true rfl) dX7_standUpTo_69) fun x69 => ?_
    refine v_cB hc (m_SN' (As := [.int v3, .int x69]) (rest := []) 2 hc hr (fun l D tys base => ct8_hasBit l D tys base h v3 x69) s8_hasBit w_557 rfl ⟨Nat.le_of_ble_eq_true rfl, Nat.le_of_ble_eq_true rfl⟩ ⟨Nat.le_of_ble_eq_true rfl, Nat.le_of_ble_eq_true rfl⟩ (Nat.le_of_ble_eq_true rfl) dX7_standUpTo_72) fun x72 => ?_
    refine v_ifb_eq hc 80 dX7_standUpTo_75 rfl ?_ ?_
    · refine v_iincN (i := 4) (y := (1 : Int32)) (L' := fun z => [(4, .int z), (5, .int (bI s0)), (0, .ref v0), (1, .int v1), (2, .int v2), (3, .int v3)]) hc 5 rfl dX7_standUpTo_80 zi_1 (hn 4 (Nat.le_of_ble_eq_true rfl)) (fun _ => rfl) fun x80 => ?_
      refine v_goto hc 9 dX7_standUpTo_83 rfl ?_
      refine v_sub (L' := [(0, .ref v0), (1, .int v1), (2, .int v2), (3, .int v3), (4, .int x80)]) [2, 3, 4, 5, 0] rfl ?_
      exact hk9 x80
    · refine v_iconst (x := (3 : Int32)) hc dX7_standUpTo_78 zi_3 ?_
      exact v_iret hc hq rfl rfl (Nat.le_of_ble_eq_true rfl) (Nat.le_of_ble_eq_true rfl) rfl dX7_standUpTo_79
def f7_standUpTo_184 (k92 : Int32 → Int32 → Option (Int32)) (h : AH) (v0 : Nat) (v1 : Int32) (v2 : Int32) (v4 : Int32) (v5 : Int32) (s0 : Bool) : Option (Int32) := (if s0 = true then (some (if v4 < (2 : Int32) then (2 : Int32) else v4)).bind fun z198 => (some (v5 + (1 : Int32))).bind fun x203 => k92 z198 x203 else (some (if v4 < (1 : Int32) then (1 : Int32) else v4)).bind fun z198 => (some (v5 + (1 : Int32))).bind fun x203 => k92 z198 x203)
set_option maxRecDepth 100000 in
theorem vl7_standUpTo_184 {κ : Kx} (hc : CX κ RX7 cX7_standUpTo) (hr : RX κ ({ frames := 5, cells := 0, slots := 0, locals := 132 } : Room)) (hq : QX κ (some .int) 0 0) (hL : 8 = κ.2.2.2.2.1) (k92 : Int32 → Int32 → Option (Int32)) (h : AH) (v0 : Nat) (v1 : Int32) (v2 : Int32) (hk92 : ∀ (v4 : Int32) (v5 : Int32), V κ (rI h) 0 0 92 [(0, .ref v0), (1, .int v1), (2, .int v2), (4, .int v4), (5, .int v5)] [] h (k92 v4 v5)) (v4 : Int32) (v5 : Int32) (s0 : Bool) : V κ (rI h) 0 0 184 [(0, .ref v0), (1, .int v1), (2, .int v2), (4, .int v4), (5, .int v5)] [.int (bI s0)] h (f7_standUpTo_184 k92 h v0 v1 v2 v4 v5 s0) := by
  have hn : ∀ i, i < 8 → i < κ.2.2.2.2.1 := fun i q => hL ▸ q
  unfold f7_standUpTo_184
  refine v_istore (i := 7) (L' := [(7, .int (bI s0)), (0, .ref v0), (1, .int v1), (2, .int v2), (4, .int v4), (5, .int v5)]) hc dX7_standUpTo_184 (hn 7 (Nat.le_of_ble_eq_true rfl)) rfl ?_
  refine v_iload (i := 4) hc 4 rfl dX7_standUpTo_186 ?_
  refine v_iload (i := 7) hc 0 rfl dX7_standUpTo_188 ?_
  refine v_ifb_eq hc 197 dX7_standUpTo_190 rfl ?_ ?_
  · refine v_iconst (x := (1 : Int32)) hc dX7_standUpTo_197 zi_1 ?_
    refine v_mmax hc hr w_817 w_146 w_111 w_147 (Nat.le_of_ble_eq_true rfl) (Nat.le_of_ble_eq_true rfl) (Nat.le_of_ble_eq_true rfl) (Nat.le_of_ble_eq_true rfl) dX7_standUpTo_198 (v_nmI fun z198 => ?_)
    refine v_istore (i := 4) (L' := [(4, .int z198), (7, .int (bI s0)), (0, .ref v0), (1, .int v1), (2, .int v2), (5, .int v5)]) hc dX7_standUpTo_201 (hn 4 (Nat.le_of_ble_eq_true rfl)) rfl ?_
    refine v_iincN (i := 5) (y := (1 : Int32)) (L' := fun z => [(5, .int z), (4, .int z198), (7, .int (bI s0)), (0, .ref v0), (1, .int v1), (2, .int v2)]) hc 5 rfl dX7_standUpTo_203 zi_1 (hn 5 (Nat.le_of_ble_eq_true rfl)) (fun _ => rfl) fun x203 => ?_
    refine v_goto hc 92 dX7_standUpTo_206 rfl ?_
    refine v_sub (L' := [(0, .ref v0), (1, .int v1), (2, .int v2), (4, .int z198), (5, .int x203)]) [3, 4, 5, 1, 0] rfl ?_
    exact hk92 z198 x203
  · refine v_iconst (x := (2 : Int32)) hc dX7_standUpTo_193 zi_2 ?_
    refine v_goto hc 198 dX7_standUpTo_194 rfl ?_
    refine v_mmax hc hr w_817 w_146 w_111 w_147 (Nat.le_of_ble_eq_true rfl) (Nat.le_of_ble_eq_true rfl) (Nat.le_of_ble_eq_true rfl) (Nat.le_of_ble_eq_true rfl) dX7_standUpTo_198 (v_nmI fun z198 => ?_)
    refine v_istore (i := 4) (L' := [(4, .int z198), (7, .int (bI s0)), (0, .ref v0), (1, .int v1), (2, .int v2), (5, .int v5)]) hc dX7_standUpTo_201 (hn 4 (Nat.le_of_ble_eq_true rfl)) rfl ?_
    refine v_iincN (i := 5) (y := (1 : Int32)) (L' := fun z => [(5, .int z), (4, .int z198), (7, .int (bI s0)), (0, .ref v0), (1, .int v1), (2, .int v2)]) hc 5 rfl dX7_standUpTo_203 zi_1 (hn 5 (Nat.le_of_ble_eq_true rfl)) (fun _ => rfl) fun x203 => ?_
    refine v_goto hc 92 dX7_standUpTo_206 rfl ?_
    refine v_sub (L' := [(0, .ref v0), (1, .int v1), (2, .int v2), (4, .int z198), (5, .int x203)]) [3, 4, 5, 1, 0] rfl ?_
    exact hk92 z198 x203
def f7_standUpTo_137 (k92 : Int32 → Int32 → Option (Int32)) (h : AH) (v0 : Nat) (v1 : Int32) (v2 : Int32) (v4 : Int32) (v5 : Int32) (s0 : Bool) : Option (Int32) := (if s0 = true then (fR 7 6 h v0).bind fun x145 => (f5_at h x145 v5 (3 : Int32)).bind fun x151 => (if x151 = 0 then (fR 7 4 h v0).bind fun x158 => (fR 7 6 h v0).bind fun x162 => (f5_at h x162 v5 (1 : Int32)).bind fun x168 => (f5_at h x158 x168 (0 : Int32)).bind fun x172 => (if x172 = (1 : Int32) then f7_standUpTo_184 k92 h v0 v1 v2 v4 v5 true else f7_standUpTo_184 k92 h v0 v1 v2 v4 v5 false) else (some (v5 + (1 : Int32))).bind fun x203 => k92 v4 x203) else (some (v5 + (1 : Int32))).bind fun x203 => k92 v4 x203)
set_option maxRecDepth 100000 in
theorem vl7_standUpTo_137 {κ : Kx} (hc : CX κ RX7 cX7_standUpTo) (hr : RX κ ({ frames := 5, cells := 0, slots := 0, locals := 132 } : Room)) (hq : QX κ (some .int) 0 0) (hL : 8 = κ.2.2.2.2.1) (k92 : Int32 → Int32 → Option (Int32)) (h : AH) (v0 : Nat) (v1 : Int32) (v2 : Int32) (hk92 : ∀ (v4 : Int32) (v5 : Int32), V κ (rI h) 0 0 92 [(0, .ref v0), (1, .int v1), (2, .int v2), (4, .int v4), (5, .int v5)] [] h (k92 v4 v5)) (v4 : Int32) (v5 : Int32) (s0 : Bool) : V κ (rI h) 0 0 137 [(0, .ref v0), (1, .int v1), (2, .int v2), (4, .int v4), (5, .int v5)] [.int (bI s0)] h (f7_standUpTo_137 k92 h v0 v1 v2 v4 v5 s0) := by
  have hn : ∀ i, i < 8 → i < κ.2.2.2.2.1 := fun i q => hL ▸ q
  unfold f7_standUpTo_137
  refine v_istore (i := 6) (L' := [(6, .int (bI s0)), (0, .ref v0), (1, .int v1), (2, .int v2), (4, .int v4), (5, .int v5)]) hc dX7_standUpTo_137 (hn 6 (Nat.le_of_ble_eq_true rfl)) rfl ?_
  refine v_iload (i := 6) hc 0 rfl dX7_standUpTo_139 ?_
  refine v_ifb_eq hc 203 dX7_standUpTo_141 rfl ?_ ?_
  · refine v_iincN (i := 5) (y := (1 : Int32)) (L' := fun z => [(5, .int z), (6, .int (bI s0)), (0, .ref v0), (1, .int v1), (2, .int v2), (4, .int v4)]) hc 5 rfl dX7_standUpTo_203 zi_1 (hn 5 (Nat.le_of_ble_eq_true rfl)) (fun _ => rfl) fun x203 => ?_
    refine v_goto hc 92 dX7_standUpTo_206 rfl ?_
    refine v_sub (L' := [(0, .ref v0), (1, .int v1), (2, .int v2), (4, .int v4), (5, .int x203)]) [2, 3, 4, 5, 0] rfl ?_
    exact hk92 v4 x203
  · refine v_aload_n (i := 0) hc 1 rfl dX7_standUpTo_144 rfl ?_
    refine v_getV hc kX7 6 (by decide) w_195 rfl dX7_standUpTo_145 (gR rfl fun x145 => ?_)
    refine v_iload (i := 5) hc 5 rfl dX7_standUpTo_148 ?_
    refine v_iconst (x := (3 : Int32)) hc dX7_standUpTo_150 zi_3 ?_
    refine v_cI hc (m_V' (As := [.int v5, .int (3 : Int32)]) (b := x145) (rest := []) 2 hc hr (fun l D tys base => ct5_at l D tys base h x145 v5 (3 : Int32)) (fun x hx => ob5_at hx) rfl s5_at w_554 rfl ⟨Nat.le_of_ble_eq_true rfl, Nat.le_of_ble_eq_true rfl⟩ ⟨Nat.le_of_ble_eq_true rfl, Nat.le_of_ble_eq_true rfl⟩ (Nat.le_of_ble_eq_true rfl) dX7_standUpTo_151) fun x151 => ?_
    refine v_if_ne hc 203 dX7_standUpTo_154 rfl ?_ ?_
    · refine v_iincN (i := 5) (y := (1 : Int32)) (L' := fun z => [(5, .int z), (6, .int (bI s0)), (0, .ref v0), (1, .int v1), (2, .int v2), (4, .int v4)]) hc 5 rfl dX7_standUpTo_203 zi_1 (hn 5 (Nat.le_of_ble_eq_true rfl)) (fun _ => rfl) fun x203 => ?_
      refine v_goto hc 92 dX7_standUpTo_206 rfl ?_
      refine v_sub (L' := [(0, .ref v0), (1, .int v1), (2, .int v2), (4, .int v4), (5, .int x203)]) [2, 3, 4, 5, 0] rfl ?_
      exact hk92 v4 x203
    · refine v_aload_n (i := 0) hc 1 rfl dX7_standUpTo_157 rfl ?_
      refine v_getV hc kX7 4 (by decide) w_189 rfl dX7_standUpTo_158 (gR rfl fun x158 => ?_)
      refine v_aload_n (i := 0) hc 1 rfl dX7_standUpTo_161 rfl ?_
      refine v_getV hc kX7 6 (by decide) w_195 rfl dX7_standUpTo_162 (gR rfl fun x162 => ?_)
      refine v_iload (i := 5) hc 5 rfl dX7_standUpTo_165 ?_
      refine v_iconst (x := (1 : Int32)) hc dX7_standUpTo_167 zi_1 ?_
      refine v_cI hc (m_V' (As := [.int v5, .int (1 : Int32)]) (b := x162) (rest := [.ref x158]) 2 hc hr (fun l D tys base => ct5_at l D tys base h x162 v5 (1 : Int32)) (fun x hx => ob5_at hx) rfl s5_at w_554 rfl ⟨Nat.le_of_ble_eq_true rfl, Nat.le_of_ble_eq_true rfl⟩ ⟨Nat.le_of_ble_eq_true rfl, Nat.le_of_ble_eq_true rfl⟩ (Nat.le_of_ble_eq_true rfl) dX7_standUpTo_168) fun x168 => ?_
      refine v_iconst (x := (0 : Int32)) hc dX7_standUpTo_171 zi_0 ?_
      refine v_cI hc (m_V' (As := [.int x168, .int (0 : Int32)]) (b := x158) (rest := []) 2 hc hr (fun l D tys base => ct5_at l D tys base h x158 x168 (0 : Int32)) (fun x hx => ob5_at hx) rfl s5_at w_554 rfl ⟨Nat.le_of_ble_eq_true rfl, Nat.le_of_ble_eq_true rfl⟩ ⟨Nat.le_of_ble_eq_true rfl, Nat.le_of_ble_eq_true rfl⟩ (Nat.le_of_ble_eq_true rfl) dX7_standUpTo_172) fun x172 => ?_
      refine v_iconst (x := (1 : Int32)) hc dX7_standUpTo_175 zi_1 ?_
      refine v_icmp_ne hc 183 dX7_standUpTo_176 rfl ?_ ?_
      · refine v_iconst (x := (0 : Int32)) hc dX7_standUpTo_183 zi_0 ?_
        refine v_sub (L' := [(0, .ref v0), (1, .int v1), (2, .int v2), (4, .int v4), (5, .int v5)]) [1, 2, 3, 4, 5] rfl ?_
        exact vl7_standUpTo_184 hc hr hq hL k92 h v0 v1 v2 hk92 v4 v5 false
      · refine v_iconst (x := (1 : Int32)) hc dX7_standUpTo_179 zi_1 ?_
        refine v_goto hc 184 dX7_standUpTo_180 rfl ?_
        refine v_sub (L' := [(0, .ref v0), (1, .int v1), (2, .int v2), (4, .int v4), (5, .int v5)]) [1, 2, 3, 4, 5] rfl ?_
        exact vl7_standUpTo_184 hc hr hq hL k92 h v0 v1 v2 hk92 v4 v5 true
def f7_standUpTo_92 (h : AH) (v0 : Nat) (v1 : Int32) (v2 : Int32) : Nat → Int32 → Int32 → Option (Int32)
  | 0, _, _ => none
  | n + 1, v4, v5 => (fR 7 6 h v0).bind fun x95 => (f5_size h x95).bind fun x98 => (if x98 ≤ v5 then some v4 else (fR 7 6 h v0).bind fun x105 => (f5_at h x105 v5 (0 : Int32)).bind fun x111 => (if x111 = v1 then (fR 7 6 h v0).bind fun x119 => (f5_at h x119 v5 (2 : Int32)).bind fun x125 => (if v2 < x125 then f7_standUpTo_137 (fun v4 v5 => f7_standUpTo_92 h v0 v1 v2 n v4 v5) h v0 v1 v2 v4 v5 false else f7_standUpTo_137 (fun v4 v5 => f7_standUpTo_92 h v0 v1 v2 n v4 v5) h v0 v1 v2 v4 v5 true) else f7_standUpTo_137 (fun v4 v5 => f7_standUpTo_92 h v0 v1 v2 n v4 v5) h v0 v1 v2 v4 v5 false))
set_option maxRecDepth 100000 in
theorem vl7_standUpTo_92 {κ : Kx} (hc : CX κ RX7 cX7_standUpTo) (hr : RX κ ({ frames := 5, cells := 0, slots := 0, locals := 132 } : Room)) (hq : QX κ (some .int) 0 0) (hL : 8 = κ.2.2.2.2.1)  (h : AH) (v0 : Nat) (v1 : Int32) (v2 : Int32) : ∀ n (v4 : Int32) (v5 : Int32), V κ (rI h) 0 0 92 [(0, .ref v0), (1, .int v1), (2, .int v2), (4, .int v4), (5, .int v5)] [] h (f7_standUpTo_92 h v0 v1 v2 n v4 v5) := by
  have hn : ∀ i, i < 8 → i < κ.2.2.2.2.1 := fun i q => hL ▸ q
  intro n
  induction n with
  | zero => intros; exact v_none
  | succ n ih =>
    intro v4 v5
    rw [f7_standUpTo_92.eq_2]
    refine v_iload (i := 5) hc 4 rfl dX7_standUpTo_92 ?_
    refine v_aload_n (i := 0) hc 0 rfl dX7_standUpTo_94 rfl ?_
    refine v_getV hc kX7 6 (by decide) w_195 rfl dX7_standUpTo_95 (gR rfl fun x95 => ?_)
    refine v_cI hc (m_V' (As := []) (b := x95) (rest := [.int v5]) 0 hc hr (fun l D tys base => ct5_size l D tys base h x95) (fun x hx => ob5_size hx) rfl s5_size w_556 rfl ⟨Nat.le_of_ble_eq_true rfl, Nat.le_of_ble_eq_true rfl⟩ ⟨Nat.le_of_ble_eq_true rfl, Nat.le_of_ble_eq_true rfl⟩ (Nat.le_of_ble_eq_true rfl) dX7_standUpTo_98) fun x98 => ?_
    refine v_icmp_ge hc 209 dX7_standUpTo_101 rfl ?_ ?_
    · refine v_iload (i := 4) hc 3 rfl dX7_standUpTo_209 ?_
      exact v_iret hc hq rfl rfl (Nat.le_of_ble_eq_true rfl) (Nat.le_of_ble_eq_true rfl) rfl dX7_standUpTo_211
    · refine v_aload_n (i := 0) hc 0 rfl dX7_standUpTo_104 rfl ?_
      refine v_getV hc kX7 6 (by decide) w_195 rfl dX7_standUpTo_105 (gR rfl fun x105 => ?_)
      refine v_iload (i := 5) hc 4 rfl dX7_standUpTo_108 ?_
      refine v_iconst (x := (0 : Int32)) hc dX7_standUpTo_110 zi_0 ?_
      refine v_cI hc (m_V' (As := [.int v5, .int (0 : Int32)]) (b := x105) (rest := []) 2 hc hr (fun l D tys base => ct5_at l D tys base h x105 v5 (0 : Int32)) (fun x hx => ob5_at hx) rfl s5_at w_554 rfl ⟨Nat.le_of_ble_eq_true rfl, Nat.le_of_ble_eq_true rfl⟩ ⟨Nat.le_of_ble_eq_true rfl, Nat.le_of_ble_eq_true rfl⟩ (Nat.le_of_ble_eq_true rfl) dX7_standUpTo_111) fun x111 => ?_
      refine v_iload_n (i := 1) hc 1 rfl dX7_standUpTo_114 rfl ?_
      refine v_icmp_ne hc 136 dX7_standUpTo_115 rfl ?_ ?_
      · refine v_iconst (x := (0 : Int32)) hc dX7_standUpTo_136 zi_0 ?_
        refine v_sub (L' := [(0, .ref v0), (1, .int v1), (2, .int v2), (4, .int v4), (5, .int v5)]) [0, 1, 2, 3, 4] rfl ?_
        exact vl7_standUpTo_137 hc hr hq hL (fun v4 v5 => f7_standUpTo_92 h v0 v1 v2 n v4 v5) h v0 v1 v2 ih v4 v5 false
      · refine v_aload_n (i := 0) hc 0 rfl dX7_standUpTo_118 rfl ?_
        refine v_getV hc kX7 6 (by decide) w_195 rfl dX7_standUpTo_119 (gR rfl fun x119 => ?_)
        refine v_iload (i := 5) hc 4 rfl dX7_standUpTo_122 ?_
        refine v_iconst (x := (2 : Int32)) hc dX7_standUpTo_124 zi_2 ?_
        refine v_cI hc (m_V' (As := [.int v5, .int (2 : Int32)]) (b := x119) (rest := []) 2 hc hr (fun l D tys base => ct5_at l D tys base h x119 v5 (2 : Int32)) (fun x hx => ob5_at hx) rfl s5_at w_554 rfl ⟨Nat.le_of_ble_eq_true rfl, Nat.le_of_ble_eq_true rfl⟩ ⟨Nat.le_of_ble_eq_true rfl, Nat.le_of_ble_eq_true rfl⟩ (Nat.le_of_ble_eq_true rfl) dX7_standUpTo_125) fun x125 => ?_
        refine v_iload_n (i := 2) hc 2 rfl dX7_standUpTo_128 rfl ?_
        refine v_icmp_gt hc 136 dX7_standUpTo_129 rfl ?_ ?_
        · refine v_iconst (x := (0 : Int32)) hc dX7_standUpTo_136 zi_0 ?_
          refine v_sub (L' := [(0, .ref v0), (1, .int v1), (2, .int v2), (4, .int v4), (5, .int v5)]) [0, 1, 2, 3, 4] rfl ?_
          exact vl7_standUpTo_137 hc hr hq hL (fun v4 v5 => f7_standUpTo_92 h v0 v1 v2 n v4 v5) h v0 v1 v2 ih v4 v5 false
        · refine v_iconst (x := (1 : Int32)) hc dX7_standUpTo_132 zi_1 ?_
          refine v_goto hc 137 dX7_standUpTo_133 rfl ?_
          refine v_sub (L' := [(0, .ref v0), (1, .int v1), (2, .int v2), (4, .int v4), (5, .int v5)]) [0, 1, 2, 3, 4] rfl ?_
          exact vl7_standUpTo_137 hc hr hq hL (fun v4 v5 => f7_standUpTo_92 h v0 v1 v2 n v4 v5) h v0 v1 v2 ih v4 v5 true
def f7_standUpTo_9 (h : AH) (v0 : Nat) (v1 : Int32) (v2 : Int32) (v3 : Int32) : Nat → Int32 → Option (Int32)
  | 0, _ => none
  | n + 1, v4 => (fR 7 7 h v0).bind fun x12 => (f5_size h x12).bind fun x15 => (if x15 ≤ v4 then f7_standUpTo_92 h v0 v1 v2 FU (0 : Int32) (0 : Int32) else (fR 7 7 h v0).bind fun x22 => (f5_at h x22 v4 (0 : Int32)).bind fun x28 => (if x28 = v1 then (fR 7 7 h v0).bind fun x36 => (f5_at h x36 v4 (2 : Int32)).bind fun x42 => (if v2 < x42 then f7_standUpTo_54 (fun v4 => f7_standUpTo_9 h v0 v1 v2 v3 n v4) h v0 v1 v2 v3 v4 false else f7_standUpTo_54 (fun v4 => f7_standUpTo_9 h v0 v1 v2 v3 n v4) h v0 v1 v2 v3 v4 true) else f7_standUpTo_54 (fun v4 => f7_standUpTo_9 h v0 v1 v2 v3 n v4) h v0 v1 v2 v3 v4 false))
set_option maxRecDepth 100000 in
theorem vl7_standUpTo_9 {κ : Kx} (hc : CX κ RX7 cX7_standUpTo) (hr : RX κ ({ frames := 5, cells := 0, slots := 0, locals := 132 } : Room)) (hq : QX κ (some .int) 0 0) (hL : 8 = κ.2.2.2.2.1)  (h : AH) (v0 : Nat) (v1 : Int32) (v2 : Int32) (v3 : Int32) : ∀ n (v4 : Int32), V κ (rI h) 0 0 9 [(0, .ref v0), (1, .int v1), (2, .int v2), (3, .int v3), (4, .int v4)] [] h (f7_standUpTo_9 h v0 v1 v2 v3 n v4) := by
  have hn : ∀ i, i < 8 → i < κ.2.2.2.2.1 := fun i q => hL ▸ q
  intro n
  induction n with
  | zero => intros; exact v_none
  | succ n ih =>
    intro v4
    rw [f7_standUpTo_9.eq_2]
    refine v_iload (i := 4) hc 4 rfl dX7_standUpTo_9 ?_
    refine v_aload_n (i := 0) hc 0 rfl dX7_standUpTo_11 rfl ?_
    refine v_getV hc kX7 7 (by decide) w_197 rfl dX7_standUpTo_12 (gR rfl fun x12 => ?_)
    refine v_cI hc (m_V' (As := []) (b := x12) (rest := [.int v4]) 0 hc hr (fun l D tys base => ct5_size l D tys base h x12) (fun x hx => ob5_size hx) rfl s5_size w_556 rfl ⟨Nat.le_of_ble_eq_true rfl, Nat.le_of_ble_eq_true rfl⟩ ⟨Nat.le_of_ble_eq_true rfl, Nat.le_of_ble_eq_true rfl⟩ (Nat.le_of_ble_eq_true rfl) dX7_standUpTo_15) fun x15 => ?_
    refine v_icmp_ge hc 86 dX7_standUpTo_18 rfl ?_ ?_
    · refine v_iconst (x := (0 : Int32)) hc dX7_standUpTo_86 zi_0 ?_
      refine v_istore (i := 4) (L' := [(4, .int (0 : Int32)), (0, .ref v0), (1, .int v1), (2, .int v2), (3, .int v3)]) hc dX7_standUpTo_87 (hn 4 (Nat.le_of_ble_eq_true rfl)) rfl ?_
      refine v_iconst (x := (0 : Int32)) hc dX7_standUpTo_89 zi_0 ?_
      refine v_istore (i := 5) (L' := [(5, .int (0 : Int32)), (4, .int (0 : Int32)), (0, .ref v0), (1, .int v1), (2, .int v2), (3, .int v3)]) hc dX7_standUpTo_90 (hn 5 (Nat.le_of_ble_eq_true rfl)) rfl ?_
      refine v_sub (L' := [(0, .ref v0), (1, .int v1), (2, .int v2), (4, .int (0 : Int32)), (5, .int (0 : Int32))]) [2, 3, 4, 1, 0] rfl ?_
      exact vl7_standUpTo_92 hc hr hq hL h v0 v1 v2 FU (0 : Int32) (0 : Int32)
    · refine v_aload_n (i := 0) hc 0 rfl dX7_standUpTo_21 rfl ?_
      refine v_getV hc kX7 7 (by decide) w_197 rfl dX7_standUpTo_22 (gR rfl fun x22 => ?_)
      refine v_iload (i := 4) hc 4 rfl dX7_standUpTo_25 ?_
      refine v_iconst (x := (0 : Int32)) hc dX7_standUpTo_27 zi_0 ?_
      refine v_cI hc (m_V' (As := [.int v4, .int (0 : Int32)]) (b := x22) (rest := []) 2 hc hr (fun l D tys base => ct5_at l D tys base h x22 v4 (0 : Int32)) (fun x hx => ob5_at hx) rfl s5_at w_554 rfl ⟨Nat.le_of_ble_eq_true rfl, Nat.le_of_ble_eq_true rfl⟩ ⟨Nat.le_of_ble_eq_true rfl, Nat.le_of_ble_eq_true rfl⟩ (Nat.le_of_ble_eq_true rfl) dX7_standUpTo_28) fun x28 => ?_
      refine v_iload_n (i := 1) hc 1 rfl dX7_standUpTo_31 rfl ?_
      refine v_icmp_ne hc 53 dX7_standUpTo_32 rfl ?_ ?_
      · refine v_iconst (x := (0 : Int32)) hc dX7_standUpTo_53 zi_0 ?_
        refine v_sub (L' := [(0, .ref v0), (1, .int v1), (2, .int v2), (3, .int v3), (4, .int v4)]) [0, 1, 2, 3, 4] rfl ?_
        exact vl7_standUpTo_54 hc hr hq hL (fun v4 => f7_standUpTo_9 h v0 v1 v2 v3 n v4) h v0 v1 v2 v3 ih v4 false
      · refine v_aload_n (i := 0) hc 0 rfl dX7_standUpTo_35 rfl ?_
        refine v_getV hc kX7 7 (by decide) w_197 rfl dX7_standUpTo_36 (gR rfl fun x36 => ?_)
        refine v_iload (i := 4) hc 4 rfl dX7_standUpTo_39 ?_
        refine v_iconst (x := (2 : Int32)) hc dX7_standUpTo_41 zi_2 ?_
        refine v_cI hc (m_V' (As := [.int v4, .int (2 : Int32)]) (b := x36) (rest := []) 2 hc hr (fun l D tys base => ct5_at l D tys base h x36 v4 (2 : Int32)) (fun x hx => ob5_at hx) rfl s5_at w_554 rfl ⟨Nat.le_of_ble_eq_true rfl, Nat.le_of_ble_eq_true rfl⟩ ⟨Nat.le_of_ble_eq_true rfl, Nat.le_of_ble_eq_true rfl⟩ (Nat.le_of_ble_eq_true rfl) dX7_standUpTo_42) fun x42 => ?_
        refine v_iload_n (i := 2) hc 2 rfl dX7_standUpTo_45 rfl ?_
        refine v_icmp_gt hc 53 dX7_standUpTo_46 rfl ?_ ?_
        · refine v_iconst (x := (0 : Int32)) hc dX7_standUpTo_53 zi_0 ?_
          refine v_sub (L' := [(0, .ref v0), (1, .int v1), (2, .int v2), (3, .int v3), (4, .int v4)]) [0, 1, 2, 3, 4] rfl ?_
          exact vl7_standUpTo_54 hc hr hq hL (fun v4 => f7_standUpTo_9 h v0 v1 v2 v3 n v4) h v0 v1 v2 v3 ih v4 false
        · refine v_iconst (x := (1 : Int32)) hc dX7_standUpTo_49 zi_1 ?_
          refine v_goto hc 54 dX7_standUpTo_50 rfl ?_
          refine v_sub (L' := [(0, .ref v0), (1, .int v1), (2, .int v2), (3, .int v3), (4, .int v4)]) [0, 1, 2, 3, 4] rfl ?_
          exact vl7_standUpTo_54 hc hr hq hL (fun v4 => f7_standUpTo_9 h v0 v1 v2 v3 n v4) h v0 v1 v2 v3 ih v4 true
def f7_standUpTo (h : AH) (this : Nat) (p0 : Int32) (p1 : Int32) : Option (Int32) := (hObj 7 h this).bind fun _ => (f7_tooYoung h this p0).bind fun x2 => f7_standUpTo_9 h this p0 p1 x2 FU (0 : Int32)
theorem ob7_standUpTo {h : AH} {this : Nat} {p0 : Int32} {p1 : Int32} {x : Int32} (e : f7_standUpTo h this p0 p1 = some x) : ∃ fs, hObj 7 h this = some fs := by
  unfold f7_standUpTo at e
  obtain ⟨fs, h1, -⟩ := bd e
  exact ⟨fs, h1⟩
set_option maxRecDepth 100000 in
theorem ct7_standUpTo (l : Launch) (D : va_G) (tys : Tys) (base : Nat) (h : AH) (this : Nat) (p0 : Int32) (p1 : Int32) : Ct l D tys base yX7_standUpTo cX7_standUpTo 8 (some .int) 5 132 0 0 [.ref this, .int p0, .int p1] h (rI h) (f7_standUpTo h this p0 p1) := by
  refine Ct.intro (own := RX7) (L := [(0, .ref this), (1, .int p0), (2, .int p1)]) rfl (by decide) rfl (Nat.le_of_ble_eq_true rfl) fun κ hc hr hq hi hL => ?_
  have hn : ∀ i, i < 8 → i < κ.2.2.2.2.1 := fun i q => hL ▸ q
  unfold f7_standUpTo
  refine v_obj ?_
  refine v_aload_n (i := 0) hc 0 rfl dX7_standUpTo_0 rfl ?_
  refine v_iload_n (i := 1) hc 1 rfl dX7_standUpTo_1 rfl ?_
  refine v_cI hc (m_V' (As := [.int p0]) (b := this) (rest := []) 1 hc hr (fun l D tys base => ct7_tooYoung l D tys base h this p0) (fun x hx => ob7_tooYoung hx) rfl s7_tooYoung w_901 rfl ⟨Nat.le_of_ble_eq_true rfl, Nat.le_of_ble_eq_true rfl⟩ ⟨Nat.le_of_ble_eq_true rfl, Nat.le_of_ble_eq_true rfl⟩ (Nat.le_of_ble_eq_true rfl) dX7_standUpTo_2) fun x2 => ?_
  refine v_istore_n (i := 3) (L' := [(3, .int x2), (0, .ref this), (1, .int p0), (2, .int p1)]) hc dX7_standUpTo_5 rfl (hn 3 (Nat.le_of_ble_eq_true rfl)) rfl ?_
  refine v_iconst (x := (0 : Int32)) hc dX7_standUpTo_6 zi_0 ?_
  refine v_istore (i := 4) (L' := [(4, .int (0 : Int32)), (3, .int x2), (0, .ref this), (1, .int p0), (2, .int p1)]) hc dX7_standUpTo_7 (hn 4 (Nat.le_of_ble_eq_true rfl)) rfl ?_
  refine v_sub (L' := [(0, .ref this), (1, .int p0), (2, .int p1), (3, .int x2), (4, .int (0 : Int32))]) [2, 3, 4, 1, 0] rfl ?_
  exact vl7_standUpTo_9 hc hr hq hL h this p0 p1 x2 FU (0 : Int32)
theorem s7_standUpTo : YV yX7_standUpTo RX7 cX7_standUpTo 8 (some .int) 2 := ⟨w_900, w_898, w_899, w_109, rfl, by decide +kernel, by decide +kernel, by decide +kernel⟩
def f7_costOfKeeping_26 (h : AH) (v0 : Nat) (v1 : Int32) (v2 : Int32) (v3 : Int32) : Nat → Int32 → Option (Int32)
  | 0, _ => none
  | n + 1, v4 => (fR 7 7 h v0).bind fun x29 => (f5_size h x29).bind fun x32 => (if x32 ≤ v4 then (fI 7 0 h v0).bind fun x89 => some (x89 - v3) else (fR 7 7 h v0).bind fun x39 => (f5_at h x39 v4 (0 : Int32)).bind fun x45 => (if x45 = v1 then (fR 7 7 h v0).bind fun x54 => (f5_at h x54 v4 (1 : Int32)).bind fun x60 => (f8_hasBit h v2 x60).bind fun x63 => (if x63 = true then (fR 7 7 h v0).bind fun x70 => (f5_at h x70 v4 (2 : Int32)).bind fun x76 => some (x76 - v3) else (some (v4 + (1 : Int32))).bind fun x82 => f7_costOfKeeping_26 h v0 v1 v2 v3 n x82) else (some (v4 + (1 : Int32))).bind fun x82 => f7_costOfKeeping_26 h v0 v1 v2 v3 n x82))
set_option maxRecDepth 100000 in
theorem vl7_costOfKeeping_26 {κ : Kx} (hc : CX κ RX7 cX7_costOfKeeping) (hr : RX κ ({ frames := 5, cells := 0, slots := 0, locals := 132 } : Room)) (hq : QX κ (some .int) 0 0) (hL : 5 = κ.2.2.2.2.1)  (h : AH) (v0 : Nat) (v1 : Int32) (v2 : Int32) (v3 : Int32) : ∀ n (v4 : Int32), V κ (rI h) 0 0 26 [(0, .ref v0), (1, .int v1), (2, .int v2), (3, .int v3), (4, .int v4)] [] h (f7_costOfKeeping_26 h v0 v1 v2 v3 n v4) := by
  have hn : ∀ i, i < 5 → i < κ.2.2.2.2.1 := fun i q => hL ▸ q
  intro n
  induction n with
  | zero => intros; exact v_none
  | succ n ih =>
    intro v4
    rw [f7_costOfKeeping_26.eq_2]
    refine v_iload (i := 4) hc 4 rfl dX7_costOfKeeping_26 ?_
    refine v_aload_n (i := 0) hc 0 rfl dX7_costOfKeeping_28 rfl ?_
    refine v_getV hc kX7 7 (by decide) w_197 rfl dX7_costOfKeeping_29 (gR rfl fun x29 => ?_)
    refine v_cI hc (m_V' (As := []) (b := x29) (rest := [.int v4]) 0 hc hr (fun l D tys base => ct5_size l D tys base h x29) (fun x hx => ob5_size hx) rfl s5_size w_556 rfl ⟨Nat.le_of_ble_eq_true rfl, Nat.le_of_ble_eq_true rfl⟩ ⟨Nat.le_of_ble_eq_true rfl, Nat.le_of_ble_eq_true rfl⟩ (Nat.le_of_ble_eq_true rfl) dX7_costOfKeeping_32) fun x32 => ?_
    refine v_icmp_ge hc 88 dX7_costOfKeeping_35 rfl ?_ ?_
    · refine v_aload_n (i := 0) hc 0 rfl dX7_costOfKeeping_88 rfl ?_
      refine v_getV hc kX7 0 (by decide) w_179 rfl dX7_costOfKeeping_89 (gI rfl fun x89 => ?_)
      refine v_iload_n (i := 3) hc 3 rfl dX7_costOfKeeping_92 rfl ?_
      refine v_isub hc dX7_costOfKeeping_93 ?_
      exact v_iret hc hq rfl rfl (Nat.le_of_ble_eq_true rfl) (Nat.le_of_ble_eq_true rfl) rfl dX7_costOfKeeping_94
    · refine v_aload_n (i := 0) hc 0 rfl dX7_costOfKeeping_38 rfl ?_
      refine v_getV hc kX7 7 (by decide) w_197 rfl dX7_costOfKeeping_39 (gR rfl fun x39 => ?_)
      refine v_iload (i := 4) hc 4 rfl dX7_costOfKeeping_42 ?_
      refine v_iconst (x := (0 : Int32)) hc dX7_costOfKeeping_44 zi_0 ?_
      refine v_cI hc (m_V' (As := [.int v4, .int (0 : Int32)]) (b := x39) (rest := []) 2 hc hr (fun l D tys base => ct5_at l D tys base h x39 v4 (0 : Int32)) (fun x hx => ob5_at hx) rfl s5_at w_554 rfl ⟨Nat.le_of_ble_eq_true rfl, Nat.le_of_ble_eq_true rfl⟩ ⟨Nat.le_of_ble_eq_true rfl, Nat.le_of_ble_eq_true rfl⟩ (Nat.le_of_ble_eq_true rfl) dX7_costOfKeeping_45) fun x45 => ?_
      refine v_iload_n (i := 1) hc 1 rfl dX7_costOfKeeping_48 rfl ?_
      refine v_icmp_ne hc 82 dX7_costOfKeeping_49 rfl ?_ ?_
      · refine v_iincN (i := 4) (y := (1 : Int32)) (L' := fun z => [(4, .int z), (0, .ref v0), (1, .int v1), (2, .int v2), (3, .int v3)]) hc 4 rfl dX7_costOfKeeping_82 zi_1 (hn 4 (Nat.le_of_ble_eq_true rfl)) (fun _ => rfl) fun x82 => ?_
        refine v_goto hc 26 dX7_costOfKeeping_85 rfl ?_
        refine v_sub (L' := [(0, .ref v0), (1, .int v1), (2, .int v2), (3, .int v3), (4, .int x82)]) [1, 2, 3, 4, 0] rfl ?_
        exact ih x82
      · refine v_iload_n (i := 2) hc 2 rfl dX7_costOfKeeping_52 rfl ?_
        refine v_aload_n (i := 0) hc 0 rfl dX7_costOfKeeping_53 rfl ?_
        refine v_getV hc kX7 7 (by decide) w_197 rfl dX7_costOfKeeping_54 (gR rfl fun x54 => ?_)
        refine v_iload (i := 4) hc 4 rfl dX7_costOfKeeping_57 ?_
        refine v_iconst (x := (1 : Int32)) hc dX7_costOfKeeping_59 zi_1 ?_
        refine v_cI hc (m_V' (As := [.int v4, .int (1 : Int32)]) (b := x54) (rest := [.int v2]) 2 hc hr (fun l D tys base => ct5_at l D tys base h x54 v4 (1 : Int32)) (fun x hx => ob5_at hx) rfl s5_at w_554 rfl ⟨Nat.le_of_ble_eq_true rfl, Nat.le_of_ble_eq_true rfl⟩ ⟨Nat.le_of_ble_eq_true rfl, Nat.le_of_ble_eq_true rfl⟩ (Nat.le_of_ble_eq_true rfl) dX7_costOfKeeping_60) fun x60 => ?_
        refine v_cB hc (m_SN' (As := [.int v2, .int x60]) (rest := []) 2 hc hr (fun l D tys base => ct8_hasBit l D tys base h v2 x60) s8_hasBit w_557 rfl ⟨Nat.le_of_ble_eq_true rfl, Nat.le_of_ble_eq_true rfl⟩ ⟨Nat.le_of_ble_eq_true rfl, Nat.le_of_ble_eq_true rfl⟩ (Nat.le_of_ble_eq_true rfl) dX7_costOfKeeping_63) fun x63 => ?_
        refine v_ifb_eq hc 82 dX7_costOfKeeping_66 rfl ?_ ?_
        · refine v_iincN (i := 4) (y := (1 : Int32)) (L' := fun z => [(4, .int z), (0, .ref v0), (1, .int v1), (2, .int v2), (3, .int v3)]) hc 4 rfl dX7_costOfKeeping_82 zi_1 (hn 4 (Nat.le_of_ble_eq_true rfl)) (fun _ => rfl) fun x82 => ?_
          refine v_goto hc 26 dX7_costOfKeeping_85 rfl ?_
          refine v_sub (L' := [(0, .ref v0), (1, .int v1), (2, .int v2), (3, .int v3), (4, .int x82)]) [1, 2, 3, 4, 0] rfl ?_
          exact ih x82
        · refine v_aload_n (i := 0) hc 0 rfl dX7_costOfKeeping_69 rfl ?_
          refine v_getV hc kX7 7 (by decide) w_197 rfl dX7_costOfKeeping_70 (gR rfl fun x70 => ?_)
          refine v_iload (i := 4) hc 4 rfl dX7_costOfKeeping_73 ?_
          refine v_iconst (x := (2 : Int32)) hc dX7_costOfKeeping_75 zi_2 ?_
          refine v_cI hc (m_V' (As := [.int v4, .int (2 : Int32)]) (b := x70) (rest := []) 2 hc hr (fun l D tys base => ct5_at l D tys base h x70 v4 (2 : Int32)) (fun x hx => ob5_at hx) rfl s5_at w_554 rfl ⟨Nat.le_of_ble_eq_true rfl, Nat.le_of_ble_eq_true rfl⟩ ⟨Nat.le_of_ble_eq_true rfl, Nat.le_of_ble_eq_true rfl⟩ (Nat.le_of_ble_eq_true rfl) dX7_costOfKeeping_76) fun x76 => ?_
          refine v_iload_n (i := 3) hc 3 rfl dX7_costOfKeeping_79 rfl ?_
          refine v_isub hc dX7_costOfKeeping_80 ?_
          exact v_iret hc hq rfl rfl (Nat.le_of_ble_eq_true rfl) (Nat.le_of_ble_eq_true rfl) rfl dX7_costOfKeeping_81
def f7_costOfKeeping (h : AH) (this : Nat) (p0 : Int32) : Option (Int32) := (hObj 7 h this).bind fun _ => (f7_tooYoung h this p0).bind fun x2 => (if x2 = 0 then some (0 : Int32) else (fR 7 4 h this).bind fun x13 => (f5_at h x13 p0 (8 : Int32)).bind fun x19 => f7_costOfKeeping_26 h this p0 x2 x19 FU (0 : Int32))
theorem ob7_costOfKeeping {h : AH} {this : Nat} {p0 : Int32} {x : Int32} (e : f7_costOfKeeping h this p0 = some x) : ∃ fs, hObj 7 h this = some fs := by
  unfold f7_costOfKeeping at e
  obtain ⟨fs, h1, -⟩ := bd e
  exact ⟨fs, h1⟩
set_option maxRecDepth 100000 in
theorem ct7_costOfKeeping (l : Launch) (D : va_G) (tys : Tys) (base : Nat) (h : AH) (this : Nat) (p0 : Int32) : Ct l D tys base yX7_costOfKeeping cX7_costOfKeeping 5 (some .int) 5 132 0 0 [.ref this, .int p0] h (rI h) (f7_costOfKeeping h this p0) := by
  refine Ct.intro (own := RX7) (L := [(0, .ref this), (1, .int p0)]) rfl (by decide) rfl (Nat.le_of_ble_eq_true rfl) fun κ hc hr hq hi hL => ?_
  have hn : ∀ i, i < 5 → i < κ.2.2.2.2.1 := fun i q => hL ▸ q
  unfold f7_costOfKeeping
  refine v_obj ?_
  refine v_aload_n (i := 0) hc 0 rfl dX7_costOfKeeping_0 rfl ?_
  refine v_iload_n (i := 1) hc 1 rfl dX7_costOfKeeping_1 rfl ?_
  refine v_cI hc (m_V' (As := [.int p0]) (b := this) (rest := []) 1 hc hr (fun l D tys base => ct7_tooYoung l D tys base h this p0) (fun x hx => ob7_tooYoung hx) rfl s7_tooYoung w_901 rfl ⟨Nat.le_of_ble_eq_true rfl, Nat.le_of_ble_eq_true rfl⟩ ⟨Nat.le_of_ble_eq_true rfl, Nat.le_of_ble_eq_true rfl⟩ (Nat.le_of_ble_eq_true rfl) dX7_costOfKeeping_2) fun x2 => ?_
  refine v_istore_n (i := 2) (L' := [(2, .int x2), (0, .ref this), (1, .int p0)]) hc dX7_costOfKeeping_5 rfl (hn 2 (Nat.le_of_ble_eq_true rfl)) rfl ?_
  refine v_iload_n (i := 2) hc 0 rfl dX7_costOfKeeping_6 rfl ?_
  refine v_if_ne hc 12 dX7_costOfKeeping_7 rfl ?_ ?_
  · refine v_aload_n (i := 0) hc 1 rfl dX7_costOfKeeping_12 rfl ?_
    refine v_getV hc kX7 4 (by decide) w_189 rfl dX7_costOfKeeping_13 (gR rfl fun x13 => ?_)
    refine v_iload_n (i := 1) hc 2 rfl dX7_costOfKeeping_16 rfl ?_
    refine v_bipush (x := (8 : Int32)) hc dX7_costOfKeeping_17 zb_8 ?_
    refine v_cI hc (m_V' (As := [.int p0, .int (8 : Int32)]) (b := x13) (rest := []) 2 hc hr (fun l D tys base => ct5_at l D tys base h x13 p0 (8 : Int32)) (fun x hx => ob5_at hx) rfl s5_at w_554 rfl ⟨Nat.le_of_ble_eq_true rfl, Nat.le_of_ble_eq_true rfl⟩ ⟨Nat.le_of_ble_eq_true rfl, Nat.le_of_ble_eq_true rfl⟩ (Nat.le_of_ble_eq_true rfl) dX7_costOfKeeping_19) fun x19 => ?_
    refine v_istore_n (i := 3) (L' := [(3, .int x19), (2, .int x2), (0, .ref this), (1, .int p0)]) hc dX7_costOfKeeping_22 rfl (hn 3 (Nat.le_of_ble_eq_true rfl)) rfl ?_
    refine v_iconst (x := (0 : Int32)) hc dX7_costOfKeeping_23 zi_0 ?_
    refine v_istore (i := 4) (L' := [(4, .int (0 : Int32)), (3, .int x19), (2, .int x2), (0, .ref this), (1, .int p0)]) hc dX7_costOfKeeping_24 (hn 4 (Nat.le_of_ble_eq_true rfl)) rfl ?_
    refine v_sub (L' := [(0, .ref this), (1, .int p0), (2, .int x2), (3, .int x19), (4, .int (0 : Int32))]) [3, 4, 2, 1, 0] rfl ?_
    exact vl7_costOfKeeping_26 hc hr hq hL h this p0 x2 x19 FU (0 : Int32)
  · refine v_iconst (x := (0 : Int32)) hc dX7_costOfKeeping_10 zi_0 ?_
    exact v_iret hc hq rfl rfl (Nat.le_of_ble_eq_true rfl) (Nat.le_of_ble_eq_true rfl) rfl dX7_costOfKeeping_11
theorem s7_costOfKeeping : YV yX7_costOfKeeping RX7 cX7_costOfKeeping 5 (some .int) 1 := ⟨w_909, w_907, w_908, w_109, rfl, by decide +kernel, by decide +kernel, by decide +kernel⟩
def f7_cheapestTooYoung_55 (k12 : Int32 → Int32 → Option (Int32)) (h : AH) (v0 : Nat) (v2 : Int32) (v3 : Int32) (v4 : Int32) (s0 : Bool) : Option (Int32) := (f8_hasBit h v2 v4).bind fun x60 => (if x60 = true then (if s0 = true then (some (v4 + (1 : Int32))).bind fun x74 => k12 v4 x74 else (some (v4 + (1 : Int32))).bind fun x74 => k12 v3 x74) else (some (v4 + (1 : Int32))).bind fun x74 => k12 v3 x74)
set_option maxRecDepth 100000 in
theorem vl7_cheapestTooYoung_55 {κ : Kx} (hc : CX κ RX7 cX7_cheapestTooYoung) (hr : RX κ ({ frames := 5, cells := 0, slots := 0, locals := 132 } : Room)) (hq : QX κ (some .int) 0 0) (hL : 6 = κ.2.2.2.2.1) (k12 : Int32 → Int32 → Option (Int32)) (h : AH) (v0 : Nat) (v2 : Int32) (hk12 : ∀ (v3 : Int32) (v4 : Int32), V κ (rI h) 0 0 12 [(0, .ref v0), (2, .int v2), (3, .int v3), (4, .int v4)] [] h (k12 v3 v4)) (v3 : Int32) (v4 : Int32) (s0 : Bool) : V κ (rI h) 0 0 55 [(0, .ref v0), (2, .int v2), (3, .int v3), (4, .int v4)] [.int (bI s0)] h (f7_cheapestTooYoung_55 k12 h v0 v2 v3 v4 s0) := by
  have hn : ∀ i, i < 6 → i < κ.2.2.2.2.1 := fun i q => hL ▸ q
  unfold f7_cheapestTooYoung_55
  refine v_istore (i := 5) (L' := [(5, .int (bI s0)), (0, .ref v0), (2, .int v2), (3, .int v3), (4, .int v4)]) hc dX7_cheapestTooYoung_55 (hn 5 (Nat.le_of_ble_eq_true rfl)) rfl ?_
  refine v_iload_n (i := 2) hc 2 rfl dX7_cheapestTooYoung_57 rfl ?_
  refine v_iload (i := 4) hc 4 rfl dX7_cheapestTooYoung_58 ?_
  refine v_cB hc (m_SN' (As := [.int v2, .int v4]) (rest := []) 2 hc hr (fun l D tys base => ct8_hasBit l D tys base h v2 v4) s8_hasBit w_557 rfl ⟨Nat.le_of_ble_eq_true rfl, Nat.le_of_ble_eq_true rfl⟩ ⟨Nat.le_of_ble_eq_true rfl, Nat.le_of_ble_eq_true rfl⟩ (Nat.le_of_ble_eq_true rfl) dX7_cheapestTooYoung_60) fun x60 => ?_
  refine v_ifb_eq hc 74 dX7_cheapestTooYoung_63 rfl ?_ ?_
  · refine v_iincN (i := 4) (y := (1 : Int32)) (L' := fun z => [(4, .int z), (5, .int (bI s0)), (0, .ref v0), (2, .int v2), (3, .int v3)]) hc 4 rfl dX7_cheapestTooYoung_74 zi_1 (hn 4 (Nat.le_of_ble_eq_true rfl)) (fun _ => rfl) fun x74 => ?_
    refine v_goto hc 12 dX7_cheapestTooYoung_77 rfl ?_
    refine v_sub (L' := [(0, .ref v0), (2, .int v2), (3, .int v3), (4, .int x74)]) [2, 3, 4, 0] rfl ?_
    exact hk12 v3 x74
  · refine v_iload (i := 5) hc 0 rfl dX7_cheapestTooYoung_66 ?_
    refine v_ifb_eq hc 74 dX7_cheapestTooYoung_68 rfl ?_ ?_
    · refine v_iincN (i := 4) (y := (1 : Int32)) (L' := fun z => [(4, .int z), (5, .int (bI s0)), (0, .ref v0), (2, .int v2), (3, .int v3)]) hc 4 rfl dX7_cheapestTooYoung_74 zi_1 (hn 4 (Nat.le_of_ble_eq_true rfl)) (fun _ => rfl) fun x74 => ?_
      refine v_goto hc 12 dX7_cheapestTooYoung_77 rfl ?_
      refine v_sub (L' := [(0, .ref v0), (2, .int v2), (3, .int v3), (4, .int x74)]) [2, 3, 4, 0] rfl ?_
      exact hk12 v3 x74
    · refine v_iload (i := 4) hc 4 rfl dX7_cheapestTooYoung_71 ?_
      refine v_istore_n (i := 3) (L' := [(3, .int v4), (5, .int (bI s0)), (0, .ref v0), (2, .int v2), (4, .int v4)]) hc dX7_cheapestTooYoung_73 rfl (hn 3 (Nat.le_of_ble_eq_true rfl)) rfl ?_
      refine v_iincN (i := 4) (y := (1 : Int32)) (L' := fun z => [(4, .int z), (3, .int v4), (5, .int (bI s0)), (0, .ref v0), (2, .int v2)]) hc 4 rfl dX7_cheapestTooYoung_74 zi_1 (hn 4 (Nat.le_of_ble_eq_true rfl)) (fun _ => rfl) fun x74 => ?_
      refine v_goto hc 12 dX7_cheapestTooYoung_77 rfl ?_
      refine v_sub (L' := [(0, .ref v0), (2, .int v2), (3, .int v4), (4, .int x74)]) [3, 4, 1, 0] rfl ?_
      exact hk12 v4 x74
def f7_cheapestTooYoung_12 (h : AH) (v0 : Nat) (v2 : Int32) : Nat → Int32 → Int32 → Option (Int32)
  | 0, _, _ => none
  | n + 1, v3, v4 => (fR 7 1 h v0).bind fun x15 => (f5_size h x15).bind fun x18 => (if x18 ≤ v4 then some v3 else (if v3 < 0 then f7_cheapestTooYoung_55 (fun v3 v4 => f7_cheapestTooYoung_12 h v0 v2 n v3 v4) h v0 v2 v3 v4 true else (fR 7 1 h v0).bind fun x29 => (f5_at h x29 v4 (1 : Int32)).bind fun x35 => (fR 7 1 h v0).bind fun x39 => (f5_at h x39 v3 (1 : Int32)).bind fun x44 => (if x44 ≤ x35 then f7_cheapestTooYoung_55 (fun v3 v4 => f7_cheapestTooYoung_12 h v0 v2 n v3 v4) h v0 v2 v3 v4 false else f7_cheapestTooYoung_55 (fun v3 v4 => f7_cheapestTooYoung_12 h v0 v2 n v3 v4) h v0 v2 v3 v4 true)))
set_option maxRecDepth 100000 in
theorem vl7_cheapestTooYoung_12 {κ : Kx} (hc : CX κ RX7 cX7_cheapestTooYoung) (hr : RX κ ({ frames := 5, cells := 0, slots := 0, locals := 132 } : Room)) (hq : QX κ (some .int) 0 0) (hL : 6 = κ.2.2.2.2.1)  (h : AH) (v0 : Nat) (v2 : Int32) : ∀ n (v3 : Int32) (v4 : Int32), V κ (rI h) 0 0 12 [(0, .ref v0), (2, .int v2), (3, .int v3), (4, .int v4)] [] h (f7_cheapestTooYoung_12 h v0 v2 n v3 v4) := by
  have hn : ∀ i, i < 6 → i < κ.2.2.2.2.1 := fun i q => hL ▸ q
  intro n
  induction n with
  | zero => intros; exact v_none
  | succ n ih =>
    intro v3 v4
    rw [f7_cheapestTooYoung_12.eq_2]
    refine v_iload (i := 4) hc 3 rfl dX7_cheapestTooYoung_12 ?_
    refine v_aload_n (i := 0) hc 0 rfl dX7_cheapestTooYoung_14 rfl ?_
    refine v_getV hc kX7 1 (by decide) w_181 rfl dX7_cheapestTooYoung_15 (gR rfl fun x15 => ?_)
    refine v_cI hc (m_V' (As := []) (b := x15) (rest := [.int v4]) 0 hc hr (fun l D tys base => ct5_size l D tys base h x15) (fun x hx => ob5_size hx) rfl s5_size w_556 rfl ⟨Nat.le_of_ble_eq_true rfl, Nat.le_of_ble_eq_true rfl⟩ ⟨Nat.le_of_ble_eq_true rfl, Nat.le_of_ble_eq_true rfl⟩ (Nat.le_of_ble_eq_true rfl) dX7_cheapestTooYoung_18) fun x18 => ?_
    refine v_icmp_ge hc 80 dX7_cheapestTooYoung_21 rfl ?_ ?_
    · refine v_iload_n (i := 3) hc 2 rfl dX7_cheapestTooYoung_80 rfl ?_
      exact v_iret hc hq rfl rfl (Nat.le_of_ble_eq_true rfl) (Nat.le_of_ble_eq_true rfl) rfl dX7_cheapestTooYoung_81
    · refine v_iload_n (i := 3) hc 2 rfl dX7_cheapestTooYoung_24 rfl ?_
      refine v_if_lt hc 50 dX7_cheapestTooYoung_25 rfl ?_ ?_
      · refine v_iconst (x := (1 : Int32)) hc dX7_cheapestTooYoung_50 zi_1 ?_
        refine v_goto hc 55 dX7_cheapestTooYoung_51 rfl ?_
        refine v_sub (L' := [(0, .ref v0), (2, .int v2), (3, .int v3), (4, .int v4)]) [0, 1, 2, 3] rfl ?_
        exact vl7_cheapestTooYoung_55 hc hr hq hL (fun v3 v4 => f7_cheapestTooYoung_12 h v0 v2 n v3 v4) h v0 v2 ih v3 v4 true
      · refine v_aload_n (i := 0) hc 0 rfl dX7_cheapestTooYoung_28 rfl ?_
        refine v_getV hc kX7 1 (by decide) w_181 rfl dX7_cheapestTooYoung_29 (gR rfl fun x29 => ?_)
        refine v_iload (i := 4) hc 3 rfl dX7_cheapestTooYoung_32 ?_
        refine v_iconst (x := (1 : Int32)) hc dX7_cheapestTooYoung_34 zi_1 ?_
        refine v_cI hc (m_V' (As := [.int v4, .int (1 : Int32)]) (b := x29) (rest := []) 2 hc hr (fun l D tys base => ct5_at l D tys base h x29 v4 (1 : Int32)) (fun x hx => ob5_at hx) rfl s5_at w_554 rfl ⟨Nat.le_of_ble_eq_true rfl, Nat.le_of_ble_eq_true rfl⟩ ⟨Nat.le_of_ble_eq_true rfl, Nat.le_of_ble_eq_true rfl⟩ (Nat.le_of_ble_eq_true rfl) dX7_cheapestTooYoung_35) fun x35 => ?_
        refine v_aload_n (i := 0) hc 0 rfl dX7_cheapestTooYoung_38 rfl ?_
        refine v_getV hc kX7 1 (by decide) w_181 rfl dX7_cheapestTooYoung_39 (gR rfl fun x39 => ?_)
        refine v_iload_n (i := 3) hc 2 rfl dX7_cheapestTooYoung_42 rfl ?_
        refine v_iconst (x := (1 : Int32)) hc dX7_cheapestTooYoung_43 zi_1 ?_
        refine v_cI hc (m_V' (As := [.int v3, .int (1 : Int32)]) (b := x39) (rest := [.int x35]) 2 hc hr (fun l D tys base => ct5_at l D tys base h x39 v3 (1 : Int32)) (fun x hx => ob5_at hx) rfl s5_at w_554 rfl ⟨Nat.le_of_ble_eq_true rfl, Nat.le_of_ble_eq_true rfl⟩ ⟨Nat.le_of_ble_eq_true rfl, Nat.le_of_ble_eq_true rfl⟩ (Nat.le_of_ble_eq_true rfl) dX7_cheapestTooYoung_44) fun x44 => ?_
        refine v_icmp_ge hc 54 dX7_cheapestTooYoung_47 rfl ?_ ?_
        · refine v_iconst (x := (0 : Int32)) hc dX7_cheapestTooYoung_54 zi_0 ?_
          refine v_sub (L' := [(0, .ref v0), (2, .int v2), (3, .int v3), (4, .int v4)]) [0, 1, 2, 3] rfl ?_
          exact vl7_cheapestTooYoung_55 hc hr hq hL (fun v3 v4 => f7_cheapestTooYoung_12 h v0 v2 n v3 v4) h v0 v2 ih v3 v4 false
        · refine v_iconst (x := (1 : Int32)) hc dX7_cheapestTooYoung_50 zi_1 ?_
          refine v_goto hc 55 dX7_cheapestTooYoung_51 rfl ?_
          refine v_sub (L' := [(0, .ref v0), (2, .int v2), (3, .int v3), (4, .int v4)]) [0, 1, 2, 3] rfl ?_
          exact vl7_cheapestTooYoung_55 hc hr hq hL (fun v3 v4 => f7_cheapestTooYoung_12 h v0 v2 n v3 v4) h v0 v2 ih v3 v4 true
def f7_cheapestTooYoung (h : AH) (this : Nat) (p0 : Int32) : Option (Int32) := (hObj 7 h this).bind fun _ => (f7_tooYoung h this p0).bind fun x2 => f7_cheapestTooYoung_12 h this x2 FU (-2 : Int32) (0 : Int32)
theorem ob7_cheapestTooYoung {h : AH} {this : Nat} {p0 : Int32} {x : Int32} (e : f7_cheapestTooYoung h this p0 = some x) : ∃ fs, hObj 7 h this = some fs := by
  unfold f7_cheapestTooYoung at e
  obtain ⟨fs, h1, -⟩ := bd e
  exact ⟨fs, h1⟩
set_option maxRecDepth 100000 in
theorem ct7_cheapestTooYoung (l : Launch) (D : va_G) (tys : Tys) (base : Nat) (h : AH) (this : Nat) (p0 : Int32) : Ct l D tys base yX7_cheapestTooYoung cX7_cheapestTooYoung 6 (some .int) 5 132 0 0 [.ref this, .int p0] h (rI h) (f7_cheapestTooYoung h this p0) := by
  refine Ct.intro (own := RX7) (L := [(0, .ref this), (1, .int p0)]) rfl (by decide) rfl (Nat.le_of_ble_eq_true rfl) fun κ hc hr hq hi hL => ?_
  have hn : ∀ i, i < 6 → i < κ.2.2.2.2.1 := fun i q => hL ▸ q
  unfold f7_cheapestTooYoung
  refine v_obj ?_
  refine v_aload_n (i := 0) hc 0 rfl dX7_cheapestTooYoung_0 rfl ?_
  refine v_iload_n (i := 1) hc 1 rfl dX7_cheapestTooYoung_1 rfl ?_
  refine v_cI hc (m_V' (As := [.int p0]) (b := this) (rest := []) 1 hc hr (fun l D tys base => ct7_tooYoung l D tys base h this p0) (fun x hx => ob7_tooYoung hx) rfl s7_tooYoung w_901 rfl ⟨Nat.le_of_ble_eq_true rfl, Nat.le_of_ble_eq_true rfl⟩ ⟨Nat.le_of_ble_eq_true rfl, Nat.le_of_ble_eq_true rfl⟩ (Nat.le_of_ble_eq_true rfl) dX7_cheapestTooYoung_2) fun x2 => ?_
  refine v_istore_n (i := 2) (L' := [(2, .int x2), (0, .ref this), (1, .int p0)]) hc dX7_cheapestTooYoung_5 rfl (hn 2 (Nat.le_of_ble_eq_true rfl)) rfl ?_
  refine v_bipush (x := (-2 : Int32)) hc dX7_cheapestTooYoung_6 zb_m2 ?_
  refine v_istore_n (i := 3) (L' := [(3, .int (-2 : Int32)), (2, .int x2), (0, .ref this), (1, .int p0)]) hc dX7_cheapestTooYoung_8 rfl (hn 3 (Nat.le_of_ble_eq_true rfl)) rfl ?_
  refine v_iconst (x := (0 : Int32)) hc dX7_cheapestTooYoung_9 zi_0 ?_
  refine v_istore (i := 4) (L' := [(4, .int (0 : Int32)), (3, .int (-2 : Int32)), (2, .int x2), (0, .ref this), (1, .int p0)]) hc dX7_cheapestTooYoung_10 (hn 4 (Nat.le_of_ble_eq_true rfl)) rfl ?_
  refine v_sub (L' := [(0, .ref this), (2, .int x2), (3, .int (-2 : Int32)), (4, .int (0 : Int32))]) [3, 2, 1, 0] rfl ?_
  exact vl7_cheapestTooYoung_12 hc hr hq hL h this x2 FU (-2 : Int32) (0 : Int32)
theorem s7_cheapestTooYoung : YV yX7_cheapestTooYoung RX7 cX7_cheapestTooYoung 6 (some .int) 1 := ⟨w_917, w_915, w_916, w_109, rfl, by decide +kernel, by decide +kernel, by decide +kernel⟩
def f7_likeliestSource_8 (h : AH) (v0 : Nat) (v1 : Int32) : Nat → Int32 → Int32 → Int32 → Option (Int32)
  | 0, _, _, _ => none
  | n + 1, v2, v3, v4 => (if (6 : Int32) ≤ v4 then some v2 else (f7_pagesSharedWith h v0 v1 v4).bind fun x19 => (if x19 ≤ v3 then (some (v4 + (1 : Int32))).bind fun x36 => f7_likeliestSource_8 h v0 v1 n v2 v3 x36 else (some (v4 + (1 : Int32))).bind fun x36 => f7_likeliestSource_8 h v0 v1 n v4 x19 x36))
set_option maxRecDepth 100000 in
theorem vl7_likeliestSource_8 {κ : Kx} (hc : CX κ RX7 cX7_likeliestSource) (hr : RX κ ({ frames := 5, cells := 0, slots := 0, locals := 137 } : Room)) (hq : QX κ (some .int) 0 0) (hL : 6 = κ.2.2.2.2.1)  (h : AH) (v0 : Nat) (v1 : Int32) : ∀ n (v2 : Int32) (v3 : Int32) (v4 : Int32), V κ (rI h) 0 0 8 [(0, .ref v0), (1, .int v1), (2, .int v2), (3, .int v3), (4, .int v4)] [] h (f7_likeliestSource_8 h v0 v1 n v2 v3 v4) := by
  have hn : ∀ i, i < 6 → i < κ.2.2.2.2.1 := fun i q => hL ▸ q
  intro n
  induction n with
  | zero => intros; exact v_none
  | succ n ih =>
    intro v2 v3 v4
    rw [f7_likeliestSource_8.eq_2]
    refine v_iload (i := 4) hc 4 rfl dX7_likeliestSource_8 ?_
    refine v_bipush (x := (6 : Int32)) hc dX7_likeliestSource_10 zb_6 ?_
    refine v_icmp_ge hc 42 dX7_likeliestSource_12 rfl ?_ ?_
    · refine v_iload_n (i := 2) hc 2 rfl dX7_likeliestSource_42 rfl ?_
      exact v_iret hc hq rfl rfl (Nat.le_of_ble_eq_true rfl) (Nat.le_of_ble_eq_true rfl) rfl dX7_likeliestSource_43
    · refine v_aload_n (i := 0) hc 0 rfl dX7_likeliestSource_15 rfl ?_
      refine v_iload_n (i := 1) hc 1 rfl dX7_likeliestSource_16 rfl ?_
      refine v_iload (i := 4) hc 4 rfl dX7_likeliestSource_17 ?_
      refine v_cI hc (m_V' (As := [.int v1, .int v4]) (b := v0) (rest := []) 2 hc hr (fun l D tys base => ct7_pagesSharedWith l D tys base h v0 v1 v4) (fun x hx => ob7_pagesSharedWith hx) rfl s7_pagesSharedWith w_926 rfl ⟨Nat.le_of_ble_eq_true rfl, Nat.le_of_ble_eq_true rfl⟩ ⟨Nat.le_of_ble_eq_true rfl, Nat.le_of_ble_eq_true rfl⟩ (Nat.le_of_ble_eq_true rfl) dX7_likeliestSource_19) fun x19 => ?_
      refine v_istore (i := 5) (L' := [(5, .int x19), (0, .ref v0), (1, .int v1), (2, .int v2), (3, .int v3), (4, .int v4)]) hc dX7_likeliestSource_22 (hn 5 (Nat.le_of_ble_eq_true rfl)) rfl ?_
      refine v_iload (i := 5) hc 0 rfl dX7_likeliestSource_24 ?_
      refine v_iload_n (i := 3) hc 4 rfl dX7_likeliestSource_26 rfl ?_
      refine v_icmp_le hc 36 dX7_likeliestSource_27 rfl ?_ ?_
      · refine v_iincN (i := 4) (y := (1 : Int32)) (L' := fun z => [(4, .int z), (5, .int x19), (0, .ref v0), (1, .int v1), (2, .int v2), (3, .int v3)]) hc 5 rfl dX7_likeliestSource_36 zi_1 (hn 4 (Nat.le_of_ble_eq_true rfl)) (fun _ => rfl) fun x36 => ?_
        refine v_goto hc 8 dX7_likeliestSource_39 rfl ?_
        refine v_sub (L' := [(0, .ref v0), (1, .int v1), (2, .int v2), (3, .int v3), (4, .int x36)]) [2, 3, 4, 5, 0] rfl ?_
        exact ih v2 v3 x36
      · refine v_iload (i := 5) hc 0 rfl dX7_likeliestSource_30 ?_
        refine v_istore_n (i := 3) (L' := [(3, .int x19), (5, .int x19), (0, .ref v0), (1, .int v1), (2, .int v2), (4, .int v4)]) hc dX7_likeliestSource_32 rfl (hn 3 (Nat.le_of_ble_eq_true rfl)) rfl ?_
        refine v_iload (i := 4) hc 5 rfl dX7_likeliestSource_33 ?_
        refine v_istore_n (i := 2) (L' := [(2, .int v4), (3, .int x19), (5, .int x19), (0, .ref v0), (1, .int v1), (4, .int v4)]) hc dX7_likeliestSource_35 rfl (hn 2 (Nat.le_of_ble_eq_true rfl)) rfl ?_
        refine v_iincN (i := 4) (y := (1 : Int32)) (L' := fun z => [(4, .int z), (2, .int v4), (3, .int x19), (5, .int x19), (0, .ref v0), (1, .int v1)]) hc 5 rfl dX7_likeliestSource_36 zi_1 (hn 4 (Nat.le_of_ble_eq_true rfl)) (fun _ => rfl) fun x36 => ?_
        refine v_goto hc 8 dX7_likeliestSource_39 rfl ?_
        refine v_sub (L' := [(0, .ref v0), (1, .int v1), (2, .int v4), (3, .int x19), (4, .int x36)]) [4, 5, 1, 2, 0] rfl ?_
        exact ih v4 x19 x36
def f7_likeliestSource (h : AH) (this : Nat) (p0 : Int32) : Option (Int32) := (hObj 7 h this).bind fun _ => f7_likeliestSource_8 h this p0 FU (-2 : Int32) (0 : Int32) (0 : Int32)
theorem ob7_likeliestSource {h : AH} {this : Nat} {p0 : Int32} {x : Int32} (e : f7_likeliestSource h this p0 = some x) : ∃ fs, hObj 7 h this = some fs := by
  unfold f7_likeliestSource at e
  obtain ⟨fs, h1, -⟩ := bd e
  exact ⟨fs, h1⟩
set_option maxRecDepth 100000 in
theorem ct7_likeliestSource (l : Launch) (D : va_G) (tys : Tys) (base : Nat) (h : AH) (this : Nat) (p0 : Int32) : Ct l D tys base yX7_likeliestSource cX7_likeliestSource 6 (some .int) 5 137 0 0 [.ref this, .int p0] h (rI h) (f7_likeliestSource h this p0) := by
  refine Ct.intro (own := RX7) (L := [(0, .ref this), (1, .int p0)]) rfl (by decide) rfl (Nat.le_of_ble_eq_true rfl) fun κ hc hr hq hi hL => ?_
  have hn : ∀ i, i < 6 → i < κ.2.2.2.2.1 := fun i q => hL ▸ q
  unfold f7_likeliestSource
  refine v_obj ?_
  refine v_bipush (x := (-2 : Int32)) hc dX7_likeliestSource_0 zb_m2 ?_
  refine v_istore_n (i := 2) (L' := [(2, .int (-2 : Int32)), (0, .ref this), (1, .int p0)]) hc dX7_likeliestSource_2 rfl (hn 2 (Nat.le_of_ble_eq_true rfl)) rfl ?_
  refine v_iconst (x := (0 : Int32)) hc dX7_likeliestSource_3 zi_0 ?_
  refine v_istore_n (i := 3) (L' := [(3, .int (0 : Int32)), (2, .int (-2 : Int32)), (0, .ref this), (1, .int p0)]) hc dX7_likeliestSource_4 rfl (hn 3 (Nat.le_of_ble_eq_true rfl)) rfl ?_
  refine v_iconst (x := (0 : Int32)) hc dX7_likeliestSource_5 zi_0 ?_
  refine v_istore (i := 4) (L' := [(4, .int (0 : Int32)), (3, .int (0 : Int32)), (2, .int (-2 : Int32)), (0, .ref this), (1, .int p0)]) hc dX7_likeliestSource_6 (hn 4 (Nat.le_of_ble_eq_true rfl)) rfl ?_
  refine v_sub (L' := [(0, .ref this), (1, .int p0), (2, .int (-2 : Int32)), (3, .int (0 : Int32)), (4, .int (0 : Int32))]) [3, 4, 2, 1, 0] rfl ?_
  exact vl7_likeliestSource_8 hc hr hq hL h this p0 FU (-2 : Int32) (0 : Int32) (0 : Int32)
theorem s7_likeliestSource : YV yX7_likeliestSource RX7 cX7_likeliestSource 6 (some .int) 1 := ⟨w_925, w_923, w_924, w_109, rfl, by decide +kernel, by decide +kernel, by decide +kernel⟩
def f7_sourcesOf_15 (h : AH) (v0 : Nat) (v3 : Int32) : Nat → Int32 → Int32 → Option (Int32)
  | 0, _, _ => none
  | n + 1, v2, v4 => (if v3 ≤ v4 then some v2 else (f7_sourcesOfPage h v0 v4).bind fun x25 => (some (v2 ||| x25)).bind fun x29 => (some (v4 + (1 : Int32))).bind fun x30 => f7_sourcesOf_15 h v0 v3 n x29 x30)
set_option maxRecDepth 100000 in
theorem vl7_sourcesOf_15 {κ : Kx} (hc : CX κ RX7 cX7_sourcesOf) (hr : RX κ ({ frames := 4, cells := 0, slots := 0, locals := 112 } : Room)) (hq : QX κ (some .int) 0 0) (hL : 5 = κ.2.2.2.2.1)  (h : AH) (v0 : Nat) (v3 : Int32) : ∀ n (v2 : Int32) (v4 : Int32), V κ (rI h) 0 0 15 [(0, .ref v0), (2, .int v2), (3, .int v3), (4, .int v4)] [] h (f7_sourcesOf_15 h v0 v3 n v2 v4) := by
  have hn : ∀ i, i < 5 → i < κ.2.2.2.2.1 := fun i q => hL ▸ q
  intro n
  induction n with
  | zero => intros; exact v_none
  | succ n ih =>
    intro v2 v4
    rw [f7_sourcesOf_15.eq_2]
    refine v_iload (i := 4) hc 3 rfl dX7_sourcesOf_15 ?_
    refine v_iload_n (i := 3) hc 2 rfl dX7_sourcesOf_17 rfl ?_
    refine v_icmp_ge hc 36 dX7_sourcesOf_18 rfl ?_ ?_
    · refine v_iload_n (i := 2) hc 1 rfl dX7_sourcesOf_36 rfl ?_
      exact v_iret hc hq rfl rfl (Nat.le_of_ble_eq_true rfl) (Nat.le_of_ble_eq_true rfl) rfl dX7_sourcesOf_37
    · refine v_iload_n (i := 2) hc 1 rfl dX7_sourcesOf_21 rfl ?_
      refine v_aload_n (i := 0) hc 0 rfl dX7_sourcesOf_22 rfl ?_
      refine v_iload (i := 4) hc 3 rfl dX7_sourcesOf_23 ?_
      refine v_cI hc (m_V' (As := [.int v4]) (b := v0) (rest := [.int v2]) 1 hc hr (fun l D tys base => ct7_sourcesOfPage l D tys base h v0 v4) (fun x hx => ob7_sourcesOfPage hx) rfl s7_sourcesOfPage w_526 rfl ⟨Nat.le_of_ble_eq_true rfl, Nat.le_of_ble_eq_true rfl⟩ ⟨Nat.le_of_ble_eq_true rfl, Nat.le_of_ble_eq_true rfl⟩ (Nat.le_of_ble_eq_true rfl) dX7_sourcesOf_25) fun x25 => ?_
      refine v_ior hc dX7_sourcesOf_28 ?_
      refine v_nmI fun x29 => ?_
      refine v_istore_n (i := 2) (L' := [(2, .int x29), (0, .ref v0), (3, .int v3), (4, .int v4)]) hc dX7_sourcesOf_29 rfl (hn 2 (Nat.le_of_ble_eq_true rfl)) rfl ?_
      refine v_iincN (i := 4) (y := (1 : Int32)) (L' := fun z => [(4, .int z), (2, .int x29), (0, .ref v0), (3, .int v3)]) hc 3 rfl dX7_sourcesOf_30 zi_1 (hn 4 (Nat.le_of_ble_eq_true rfl)) (fun _ => rfl) fun x30 => ?_
      refine v_goto hc 15 dX7_sourcesOf_33 rfl ?_
      refine v_sub (L' := [(0, .ref v0), (2, .int x29), (3, .int v3), (4, .int x30)]) [2, 1, 3, 0] rfl ?_
      exact ih x29 x30
def f7_sourcesOf (h : AH) (this : Nat) (p0 : Int32) : Option (Int32) := (hObj 7 h this).bind fun _ => (f7_pagesEnd h this p0).bind fun x4 => (f7_firstPage h this p0).bind fun x10 => f7_sourcesOf_15 h this x4 FU (0 : Int32) x10
theorem ob7_sourcesOf {h : AH} {this : Nat} {p0 : Int32} {x : Int32} (e : f7_sourcesOf h this p0 = some x) : ∃ fs, hObj 7 h this = some fs := by
  unfold f7_sourcesOf at e
  obtain ⟨fs, h1, -⟩ := bd e
  exact ⟨fs, h1⟩
set_option maxRecDepth 100000 in
theorem ct7_sourcesOf (l : Launch) (D : va_G) (tys : Tys) (base : Nat) (h : AH) (this : Nat) (p0 : Int32) : Ct l D tys base yX7_sourcesOf cX7_sourcesOf 5 (some .int) 4 112 0 0 [.ref this, .int p0] h (rI h) (f7_sourcesOf h this p0) := by
  refine Ct.intro (own := RX7) (L := [(0, .ref this), (1, .int p0)]) rfl (by decide) rfl (Nat.le_of_ble_eq_true rfl) fun κ hc hr hq hi hL => ?_
  have hn : ∀ i, i < 5 → i < κ.2.2.2.2.1 := fun i q => hL ▸ q
  unfold f7_sourcesOf
  refine v_obj ?_
  refine v_iconst (x := (0 : Int32)) hc dX7_sourcesOf_0 zi_0 ?_
  refine v_istore_n (i := 2) (L' := [(2, .int (0 : Int32)), (0, .ref this), (1, .int p0)]) hc dX7_sourcesOf_1 rfl (hn 2 (Nat.le_of_ble_eq_true rfl)) rfl ?_
  refine v_aload_n (i := 0) hc 1 rfl dX7_sourcesOf_2 rfl ?_
  refine v_iload_n (i := 1) hc 2 rfl dX7_sourcesOf_3 rfl ?_
  refine v_cI hc (m_V' (As := [.int p0]) (b := this) (rest := []) 1 hc hr (fun l D tys base => ct7_pagesEnd l D tys base h this p0) (fun x hx => ob7_pagesEnd hx) rfl s7_pagesEnd w_491 rfl ⟨Nat.le_of_ble_eq_true rfl, Nat.le_of_ble_eq_true rfl⟩ ⟨Nat.le_of_ble_eq_true rfl, Nat.le_of_ble_eq_true rfl⟩ (Nat.le_of_ble_eq_true rfl) dX7_sourcesOf_4) fun x4 => ?_
  refine v_istore_n (i := 3) (L' := [(3, .int x4), (2, .int (0 : Int32)), (0, .ref this), (1, .int p0)]) hc dX7_sourcesOf_7 rfl (hn 3 (Nat.le_of_ble_eq_true rfl)) rfl ?_
  refine v_aload_n (i := 0) hc 2 rfl dX7_sourcesOf_8 rfl ?_
  refine v_iload_n (i := 1) hc 3 rfl dX7_sourcesOf_9 rfl ?_
  refine v_cI hc (m_V' (As := [.int p0]) (b := this) (rest := []) 1 hc hr (fun l D tys base => ct7_firstPage l D tys base h this p0) (fun x hx => ob7_firstPage hx) rfl s7_firstPage w_496 rfl ⟨Nat.le_of_ble_eq_true rfl, Nat.le_of_ble_eq_true rfl⟩ ⟨Nat.le_of_ble_eq_true rfl, Nat.le_of_ble_eq_true rfl⟩ (Nat.le_of_ble_eq_true rfl) dX7_sourcesOf_10) fun x10 => ?_
  refine v_istore (i := 4) (L' := [(4, .int x10), (3, .int x4), (2, .int (0 : Int32)), (0, .ref this), (1, .int p0)]) hc dX7_sourcesOf_13 (hn 4 (Nat.le_of_ble_eq_true rfl)) rfl ?_
  refine v_sub (L' := [(0, .ref this), (2, .int (0 : Int32)), (3, .int x4), (4, .int x10)]) [3, 2, 1, 0] rfl ?_
  exact vl7_sourcesOf_15 hc hr hq hL h this x4 FU (0 : Int32) x10
theorem s7_sourcesOf : YV yX7_sourcesOf RX7 cX7_sourcesOf 5 (some .int) 1 := ⟨w_934, w_932, w_933, w_109, rfl, by decide +kernel, by decide +kernel, by decide +kernel⟩
def f7_weekTooFast_17 (k8 : Int32 → Int32 → Int32 → Option (Int32)) (h : AH) (v0 : Nat) (v1 : Int32) (v2 : Int32) (v5 : Int32) : Nat → Int32 → Int32 → Option (Int32)
  | 0, _, _ => none
  | n + 1, v3, v4 => (fR 7 4 h v0).bind fun x20 => (f5_size h x20).bind fun x23 => (if x23 ≤ v4 then (if v3 ≤ (v1 * ((v5 - v2) + (1 : Int32))) then (some (v5 + (1 : Int32))).bind fun x99 => k8 v3 v4 x99 else some v5) else (fR 7 4 h v0).bind fun x30 => (f5_at h x30 v4 (8 : Int32)).bind fun x37 => (if v5 < x37 then (if v3 ≤ (v1 * ((v5 - v2) + (1 : Int32))) then (some (v5 + (1 : Int32))).bind fun x99 => k8 v3 v4 x99 else some v5) else (f7_isVolume h v0 v4).bind fun x48 => (if x48 = true then (fR 7 4 h v0).bind fun x55 => (f5_at h x55 v4 (8 : Int32)).bind fun x62 => (if x62 < v2 then (some (v4 + (1 : Int32))).bind fun x78 => f7_weekTooFast_17 k8 h v0 v1 v2 v5 n v3 x78 else (f7_pagesOf h v0 v4).bind fun x73 => (some (v3 + x73)).bind fun x77 => (some (v4 + (1 : Int32))).bind fun x78 => f7_weekTooFast_17 k8 h v0 v1 v2 v5 n x77 x78) else (some (v4 + (1 : Int32))).bind fun x78 => f7_weekTooFast_17 k8 h v0 v1 v2 v5 n v3 x78)))
set_option maxRecDepth 100000 in
theorem vl7_weekTooFast_17 {κ : Kx} (hc : CX κ RX7 cX7_weekTooFast) (hr : RX κ ({ frames := 4, cells := 0, slots := 0, locals := 106 } : Room)) (hq : QX κ (some .int) 0 0) (hL : 6 = κ.2.2.2.2.1)  (k8 : Int32 → Int32 → Int32 → Option (Int32)) (h : AH) (v0 : Nat) (v1 : Int32) (v2 : Int32) (v5 : Int32) (hk8 : ∀ (v3 : Int32) (v4 : Int32) (v5 : Int32), V κ (rI h) 0 0 8 [(0, .ref v0), (1, .int v1), (2, .int v2), (3, .int v3), (4, .int v4), (5, .int v5)] [] h (k8 v3 v4 v5)) : ∀ n (v3 : Int32) (v4 : Int32), V κ (rI h) 0 0 17 [(0, .ref v0), (1, .int v1), (2, .int v2), (3, .int v3), (4, .int v4), (5, .int v5)] [] h (f7_weekTooFast_17 k8 h v0 v1 v2 v5 n v3 v4) := by
  have hn : ∀ i, i < 6 → i < κ.2.2.2.2.1 := fun i q => hL ▸ q
  intro n
  induction n with
  | zero => intros; exact v_none
  | succ n ih =>
    intro v3 v4
    rw [f7_weekTooFast_17.eq_2]
    refine v_iload (i := 4) hc 4 rfl dX7_weekTooFast_17 ?_
    refine v_aload_n (i := 0) hc 0 rfl dX7_weekTooFast_19 rfl ?_
    refine v_getV hc kX7 4 (by decide) w_189 rfl dX7_weekTooFast_20 (gR rfl fun x20 => ?_)
    refine v_cI hc (m_V' (As := []) (b := x20) (rest := [.int v4]) 0 hc hr (fun l D tys base => ct5_size l D tys base h x20) (fun x hx => ob5_size hx) rfl s5_size w_556 rfl ⟨Nat.le_of_ble_eq_true rfl, Nat.le_of_ble_eq_true rfl⟩ ⟨Nat.le_of_ble_eq_true rfl, Nat.le_of_ble_eq_true rfl⟩ (Nat.le_of_ble_eq_true rfl) dX7_weekTooFast_23) fun x23 => ?_
    refine v_icmp_ge hc 84 dX7_weekTooFast_26 rfl ?_ ?_
    · refine v_iload_n (i := 3) hc 3 rfl dX7_weekTooFast_84 rfl ?_
      refine v_iload_n (i := 1) hc 1 rfl dX7_weekTooFast_85 rfl ?_
      refine v_iload (i := 5) hc 5 rfl dX7_weekTooFast_86 ?_
      refine v_iload_n (i := 2) hc 2 rfl dX7_weekTooFast_88 rfl ?_
      refine v_isub hc dX7_weekTooFast_89 ?_
      refine v_iconst (x := (1 : Int32)) hc dX7_weekTooFast_90 zi_1 ?_
      refine v_iadd hc dX7_weekTooFast_91 ?_
      refine v_imul hc dX7_weekTooFast_92 ?_
      refine v_icmp_le hc 99 dX7_weekTooFast_93 rfl ?_ ?_
      · refine v_iincN (i := 5) (y := (1 : Int32)) (L' := fun z => [(5, .int z), (0, .ref v0), (1, .int v1), (2, .int v2), (3, .int v3), (4, .int v4)]) hc 5 rfl dX7_weekTooFast_99 zi_1 (hn 5 (Nat.le_of_ble_eq_true rfl)) (fun _ => rfl) fun x99 => ?_
        refine v_goto hc 8 dX7_weekTooFast_102 rfl ?_
        refine v_sub (L' := [(0, .ref v0), (1, .int v1), (2, .int v2), (3, .int v3), (4, .int v4), (5, .int x99)]) [1, 2, 3, 4, 5, 0] rfl ?_
        exact hk8 v3 v4 x99
      · refine v_iload (i := 5) hc 5 rfl dX7_weekTooFast_96 ?_
        exact v_iret hc hq rfl rfl (Nat.le_of_ble_eq_true rfl) (Nat.le_of_ble_eq_true rfl) rfl dX7_weekTooFast_98
    · refine v_aload_n (i := 0) hc 0 rfl dX7_weekTooFast_29 rfl ?_
      refine v_getV hc kX7 4 (by decide) w_189 rfl dX7_weekTooFast_30 (gR rfl fun x30 => ?_)
      refine v_iload (i := 4) hc 4 rfl dX7_weekTooFast_33 ?_
      refine v_bipush (x := (8 : Int32)) hc dX7_weekTooFast_35 zb_8 ?_
      refine v_cI hc (m_V' (As := [.int v4, .int (8 : Int32)]) (b := x30) (rest := []) 2 hc hr (fun l D tys base => ct5_at l D tys base h x30 v4 (8 : Int32)) (fun x hx => ob5_at hx) rfl s5_at w_554 rfl ⟨Nat.le_of_ble_eq_true rfl, Nat.le_of_ble_eq_true rfl⟩ ⟨Nat.le_of_ble_eq_true rfl, Nat.le_of_ble_eq_true rfl⟩ (Nat.le_of_ble_eq_true rfl) dX7_weekTooFast_37) fun x37 => ?_
      refine v_iload (i := 5) hc 5 rfl dX7_weekTooFast_40 ?_
      refine v_icmp_gt hc 84 dX7_weekTooFast_42 rfl ?_ ?_
      · refine v_iload_n (i := 3) hc 3 rfl dX7_weekTooFast_84 rfl ?_
        refine v_iload_n (i := 1) hc 1 rfl dX7_weekTooFast_85 rfl ?_
        refine v_iload (i := 5) hc 5 rfl dX7_weekTooFast_86 ?_
        refine v_iload_n (i := 2) hc 2 rfl dX7_weekTooFast_88 rfl ?_
        refine v_isub hc dX7_weekTooFast_89 ?_
        refine v_iconst (x := (1 : Int32)) hc dX7_weekTooFast_90 zi_1 ?_
        refine v_iadd hc dX7_weekTooFast_91 ?_
        refine v_imul hc dX7_weekTooFast_92 ?_
        refine v_icmp_le hc 99 dX7_weekTooFast_93 rfl ?_ ?_
        · refine v_iincN (i := 5) (y := (1 : Int32)) (L' := fun z => [(5, .int z), (0, .ref v0), (1, .int v1), (2, .int v2), (3, .int v3), (4, .int v4)]) hc 5 rfl dX7_weekTooFast_99 zi_1 (hn 5 (Nat.le_of_ble_eq_true rfl)) (fun _ => rfl) fun x99 => ?_
          refine v_goto hc 8 dX7_weekTooFast_102 rfl ?_
          refine v_sub (L' := [(0, .ref v0), (1, .int v1), (2, .int v2), (3, .int v3), (4, .int v4), (5, .int x99)]) [1, 2, 3, 4, 5, 0] rfl ?_
          exact hk8 v3 v4 x99
        · refine v_iload (i := 5) hc 5 rfl dX7_weekTooFast_96 ?_
          exact v_iret hc hq rfl rfl (Nat.le_of_ble_eq_true rfl) (Nat.le_of_ble_eq_true rfl) rfl dX7_weekTooFast_98
      · refine v_aload_n (i := 0) hc 0 rfl dX7_weekTooFast_45 rfl ?_
        refine v_iload (i := 4) hc 4 rfl dX7_weekTooFast_46 ?_
        refine v_cB hc (m_V' (As := [.int v4]) (b := v0) (rest := []) 1 hc hr (fun l D tys base => ct7_isVolume l D tys base h v0 v4) (fun x hx => ob7_isVolume hx) rfl s7_isVolume w_826 rfl ⟨Nat.le_of_ble_eq_true rfl, Nat.le_of_ble_eq_true rfl⟩ ⟨Nat.le_of_ble_eq_true rfl, Nat.le_of_ble_eq_true rfl⟩ (Nat.le_of_ble_eq_true rfl) dX7_weekTooFast_48) fun x48 => ?_
        refine v_ifb_eq hc 78 dX7_weekTooFast_51 rfl ?_ ?_
        · refine v_iincN (i := 4) (y := (1 : Int32)) (L' := fun z => [(4, .int z), (0, .ref v0), (1, .int v1), (2, .int v2), (3, .int v3), (5, .int v5)]) hc 4 rfl dX7_weekTooFast_78 zi_1 (hn 4 (Nat.le_of_ble_eq_true rfl)) (fun _ => rfl) fun x78 => ?_
          refine v_goto hc 17 dX7_weekTooFast_81 rfl ?_
          refine v_sub (L' := [(0, .ref v0), (1, .int v1), (2, .int v2), (3, .int v3), (4, .int x78), (5, .int v5)]) [1, 2, 3, 4, 0, 5] rfl ?_
          exact ih v3 x78
        · refine v_aload_n (i := 0) hc 0 rfl dX7_weekTooFast_54 rfl ?_
          refine v_getV hc kX7 4 (by decide) w_189 rfl dX7_weekTooFast_55 (gR rfl fun x55 => ?_)
          refine v_iload (i := 4) hc 4 rfl dX7_weekTooFast_58 ?_
          refine v_bipush (x := (8 : Int32)) hc dX7_weekTooFast_60 zb_8 ?_
          refine v_cI hc (m_V' (As := [.int v4, .int (8 : Int32)]) (b := x55) (rest := []) 2 hc hr (fun l D tys base => ct5_at l D tys base h x55 v4 (8 : Int32)) (fun x hx => ob5_at hx) rfl s5_at w_554 rfl ⟨Nat.le_of_ble_eq_true rfl, Nat.le_of_ble_eq_true rfl⟩ ⟨Nat.le_of_ble_eq_true rfl, Nat.le_of_ble_eq_true rfl⟩ (Nat.le_of_ble_eq_true rfl) dX7_weekTooFast_62) fun x62 => ?_
          refine v_iload_n (i := 2) hc 2 rfl dX7_weekTooFast_65 rfl ?_
          refine v_icmp_lt hc 78 dX7_weekTooFast_66 rfl ?_ ?_
          · refine v_iincN (i := 4) (y := (1 : Int32)) (L' := fun z => [(4, .int z), (0, .ref v0), (1, .int v1), (2, .int v2), (3, .int v3), (5, .int v5)]) hc 4 rfl dX7_weekTooFast_78 zi_1 (hn 4 (Nat.le_of_ble_eq_true rfl)) (fun _ => rfl) fun x78 => ?_
            refine v_goto hc 17 dX7_weekTooFast_81 rfl ?_
            refine v_sub (L' := [(0, .ref v0), (1, .int v1), (2, .int v2), (3, .int v3), (4, .int x78), (5, .int v5)]) [1, 2, 3, 4, 0, 5] rfl ?_
            exact ih v3 x78
          · refine v_iload_n (i := 3) hc 3 rfl dX7_weekTooFast_69 rfl ?_
            refine v_aload_n (i := 0) hc 0 rfl dX7_weekTooFast_70 rfl ?_
            refine v_iload (i := 4) hc 4 rfl dX7_weekTooFast_71 ?_
            refine v_cI hc (m_V' (As := [.int v4]) (b := v0) (rest := [.int v3]) 1 hc hr (fun l D tys base => ct7_pagesOf l D tys base h v0 v4) (fun x hx => ob7_pagesOf hx) rfl s7_pagesOf w_821 rfl ⟨Nat.le_of_ble_eq_true rfl, Nat.le_of_ble_eq_true rfl⟩ ⟨Nat.le_of_ble_eq_true rfl, Nat.le_of_ble_eq_true rfl⟩ (Nat.le_of_ble_eq_true rfl) dX7_weekTooFast_73) fun x73 => ?_
            refine v_iadd hc dX7_weekTooFast_76 ?_
            refine v_nmI fun x77 => ?_
            refine v_istore_n (i := 3) (L' := [(3, .int x77), (0, .ref v0), (1, .int v1), (2, .int v2), (4, .int v4), (5, .int v5)]) hc dX7_weekTooFast_77 rfl (hn 3 (Nat.le_of_ble_eq_true rfl)) rfl ?_
            refine v_iincN (i := 4) (y := (1 : Int32)) (L' := fun z => [(4, .int z), (3, .int x77), (0, .ref v0), (1, .int v1), (2, .int v2), (5, .int v5)]) hc 4 rfl dX7_weekTooFast_78 zi_1 (hn 4 (Nat.le_of_ble_eq_true rfl)) (fun _ => rfl) fun x78 => ?_
            refine v_goto hc 17 dX7_weekTooFast_81 rfl ?_
            refine v_sub (L' := [(0, .ref v0), (1, .int v1), (2, .int v2), (3, .int x77), (4, .int x78), (5, .int v5)]) [2, 3, 4, 1, 0, 5] rfl ?_
            exact ih x77 x78
def f7_weekTooFast_8 (h : AH) (v0 : Nat) (v1 : Int32) (v2 : Int32) : Nat → Int32 → Int32 → Int32 → Option (Int32)
  | 0, _, _, _ => none
  | n + 1, v3, v4, v5 => (fI 7 0 h v0).bind fun x11 => (if x11 < v5 then some (-2 : Int32) else f7_weekTooFast_17 (fun v3 v4 v5 => f7_weekTooFast_8 h v0 v1 v2 n v3 v4 v5) h v0 v1 v2 v5 FU v3 v4)
set_option maxRecDepth 100000 in
theorem vl7_weekTooFast_8 {κ : Kx} (hc : CX κ RX7 cX7_weekTooFast) (hr : RX κ ({ frames := 4, cells := 0, slots := 0, locals := 106 } : Room)) (hq : QX κ (some .int) 0 0) (hL : 6 = κ.2.2.2.2.1)  (h : AH) (v0 : Nat) (v1 : Int32) (v2 : Int32) : ∀ n (v3 : Int32) (v4 : Int32) (v5 : Int32), V κ (rI h) 0 0 8 [(0, .ref v0), (1, .int v1), (2, .int v2), (3, .int v3), (4, .int v4), (5, .int v5)] [] h (f7_weekTooFast_8 h v0 v1 v2 n v3 v4 v5) := by
  have hn : ∀ i, i < 6 → i < κ.2.2.2.2.1 := fun i q => hL ▸ q
  intro n
  induction n with
  | zero => intros; exact v_none
  | succ n ih =>
    intro v3 v4 v5
    rw [f7_weekTooFast_8.eq_2]
    refine v_iload (i := 5) hc 5 rfl dX7_weekTooFast_8 ?_
    refine v_aload_n (i := 0) hc 0 rfl dX7_weekTooFast_10 rfl ?_
    refine v_getV hc kX7 0 (by decide) w_179 rfl dX7_weekTooFast_11 (gI rfl fun x11 => ?_)
    refine v_icmp_gt hc 105 dX7_weekTooFast_14 rfl ?_ ?_
    · refine v_bipush (x := (-2 : Int32)) hc dX7_weekTooFast_105 zb_m2 ?_
      exact v_iret hc hq rfl rfl (Nat.le_of_ble_eq_true rfl) (Nat.le_of_ble_eq_true rfl) rfl dX7_weekTooFast_107
    · refine v_sub (L' := [(0, .ref v0), (1, .int v1), (2, .int v2), (3, .int v3), (4, .int v4), (5, .int v5)]) [0, 1, 2, 3, 4, 5] rfl ?_
      exact vl7_weekTooFast_17 hc hr hq hL (fun v3 v4 v5 => f7_weekTooFast_8 h v0 v1 v2 n v3 v4 v5) h v0 v1 v2 v5 ih FU v3 v4
def f7_weekTooFast (h : AH) (this : Nat) (p0 : Int32) (p1 : Int32) : Option (Int32) := (hObj 7 h this).bind fun _ => f7_weekTooFast_8 h this p0 p1 FU (0 : Int32) (0 : Int32) p1
theorem ob7_weekTooFast {h : AH} {this : Nat} {p0 : Int32} {p1 : Int32} {x : Int32} (e : f7_weekTooFast h this p0 p1 = some x) : ∃ fs, hObj 7 h this = some fs := by
  unfold f7_weekTooFast at e
  obtain ⟨fs, h1, -⟩ := bd e
  exact ⟨fs, h1⟩
set_option maxRecDepth 100000 in
theorem ct7_weekTooFast (l : Launch) (D : va_G) (tys : Tys) (base : Nat) (h : AH) (this : Nat) (p0 : Int32) (p1 : Int32) : Ct l D tys base yX7_weekTooFast cX7_weekTooFast 6 (some .int) 4 106 0 0 [.ref this, .int p0, .int p1] h (rI h) (f7_weekTooFast h this p0 p1) := by
  refine Ct.intro (own := RX7) (L := [(0, .ref this), (1, .int p0), (2, .int p1)]) rfl (by decide) rfl (Nat.le_of_ble_eq_true rfl) fun κ hc hr hq hi hL => ?_
  have hn : ∀ i, i < 6 → i < κ.2.2.2.2.1 := fun i q => hL ▸ q
  unfold f7_weekTooFast
  refine v_obj ?_
  refine v_iconst (x := (0 : Int32)) hc dX7_weekTooFast_0 zi_0 ?_
  refine v_istore_n (i := 3) (L' := [(3, .int (0 : Int32)), (0, .ref this), (1, .int p0), (2, .int p1)]) hc dX7_weekTooFast_1 rfl (hn 3 (Nat.le_of_ble_eq_true rfl)) rfl ?_
  refine v_iconst (x := (0 : Int32)) hc dX7_weekTooFast_2 zi_0 ?_
  refine v_istore (i := 4) (L' := [(4, .int (0 : Int32)), (3, .int (0 : Int32)), (0, .ref this), (1, .int p0), (2, .int p1)]) hc dX7_weekTooFast_3 (hn 4 (Nat.le_of_ble_eq_true rfl)) rfl ?_
  refine v_iload_n (i := 2) hc 4 rfl dX7_weekTooFast_5 rfl ?_
  refine v_istore (i := 5) (L' := [(5, .int p1), (4, .int (0 : Int32)), (3, .int (0 : Int32)), (0, .ref this), (1, .int p0), (2, .int p1)]) hc dX7_weekTooFast_6 (hn 5 (Nat.le_of_ble_eq_true rfl)) rfl ?_
  refine v_sub (L' := [(0, .ref this), (1, .int p0), (2, .int p1), (3, .int (0 : Int32)), (4, .int (0 : Int32)), (5, .int p1)]) [3, 4, 5, 2, 1, 0] rfl ?_
  exact vl7_weekTooFast_8 hc hr hq hL h this p0 p1 FU (0 : Int32) (0 : Int32) p1
theorem s7_weekTooFast : YV yX7_weekTooFast RX7 cX7_weekTooFast 6 (some .int) 2 := ⟨w_974, w_972, w_973, w_109, rfl, by decide +kernel, by decide +kernel, by decide +kernel⟩
def f7_growthBehind_45 (h : AH) (v0 : Nat) (v3 : Int32) (v4 : Int32) : Nat → Int32 → Int32 → Int32 → Option (Int32)
  | 0, _, _, _ => none
  | n + 1, v5, v6, v7 => (fR 7 4 h v0).bind fun x48 => (f5_size h x48).bind fun x51 => (if x51 ≤ v7 then some v5 else (f7_isVolume h v0 v7).bind fun x60 => (if x60 = true then (fR 7 4 h v0).bind fun x67 => (f5_at h x67 v6 (7 : Int32)).bind fun x74 => (fJ6_signum_0f7a4 h (x74 - v3)).bind fun x79 => (fR 7 4 h v0).bind fun x85 => (f5_at h x85 v7 (8 : Int32)).bind fun x92 => (fR 7 4 h v0).bind fun x96 => (f5_at h x96 v6 (8 : Int32)).bind fun x103 => (fJ6_signum_0f7a4 h ((x92 - x103) - v4)).bind fun x110 => (some (v5 - (x79 * x110))).bind fun x123 => (some (v7 + (1 : Int32))).bind fun x129 => f7_growthBehind_45 h v0 v3 v4 n x123 v7 x129 else (some (v7 + (1 : Int32))).bind fun x129 => f7_growthBehind_45 h v0 v3 v4 n v5 v6 x129))
set_option maxRecDepth 100000 in
theorem vl7_growthBehind_45 {κ : Kx} (hc : CX κ RX7 cX7_growthBehind) (hr : RX κ ({ frames := 4, cells := 0, slots := 0, locals := 87 } : Room)) (hq : QX κ (some .int) 0 0) (hL : 10 = κ.2.2.2.2.1)  (h : AH) (v0 : Nat) (v3 : Int32) (v4 : Int32) : ∀ n (v5 : Int32) (v6 : Int32) (v7 : Int32), V κ (rI h) 0 0 45 [(0, .ref v0), (3, .int v3), (4, .int v4), (5, .int v5), (6, .int v6), (7, .int v7)] [] h (f7_growthBehind_45 h v0 v3 v4 n v5 v6 v7) := by
  have hn : ∀ i, i < 10 → i < κ.2.2.2.2.1 := fun i q => hL ▸ q
  intro n
  induction n with
  | zero => intros; exact v_none
  | succ n ih =>
    intro v5 v6 v7
    rw [f7_growthBehind_45.eq_2]
    refine v_iload (i := 7) hc 5 rfl dX7_growthBehind_45 ?_
    refine v_aload_n (i := 0) hc 0 rfl dX7_growthBehind_47 rfl ?_
    refine v_getV hc kX7 4 (by decide) w_189 rfl dX7_growthBehind_48 (gR rfl fun x48 => ?_)
    refine v_cI hc (m_V' (As := []) (b := x48) (rest := [.int v7]) 0 hc hr (fun l D tys base => ct5_size l D tys base h x48) (fun x hx => ob5_size hx) rfl s5_size w_556 rfl ⟨Nat.le_of_ble_eq_true rfl, Nat.le_of_ble_eq_true rfl⟩ ⟨Nat.le_of_ble_eq_true rfl, Nat.le_of_ble_eq_true rfl⟩ (Nat.le_of_ble_eq_true rfl) dX7_growthBehind_51) fun x51 => ?_
    refine v_icmp_ge hc 135 dX7_growthBehind_54 rfl ?_ ?_
    · refine v_iload (i := 5) hc 3 rfl dX7_growthBehind_135 ?_
      exact v_iret hc hq rfl rfl (Nat.le_of_ble_eq_true rfl) (Nat.le_of_ble_eq_true rfl) rfl dX7_growthBehind_137
    · refine v_aload_n (i := 0) hc 0 rfl dX7_growthBehind_57 rfl ?_
      refine v_iload (i := 7) hc 5 rfl dX7_growthBehind_58 ?_
      refine v_cB hc (m_V' (As := [.int v7]) (b := v0) (rest := []) 1 hc hr (fun l D tys base => ct7_isVolume l D tys base h v0 v7) (fun x hx => ob7_isVolume hx) rfl s7_isVolume w_826 rfl ⟨Nat.le_of_ble_eq_true rfl, Nat.le_of_ble_eq_true rfl⟩ ⟨Nat.le_of_ble_eq_true rfl, Nat.le_of_ble_eq_true rfl⟩ (Nat.le_of_ble_eq_true rfl) dX7_growthBehind_60) fun x60 => ?_
      refine v_ifb_eq hc 129 dX7_growthBehind_63 rfl ?_ ?_
      · refine v_iincN (i := 7) (y := (1 : Int32)) (L' := fun z => [(7, .int z), (0, .ref v0), (3, .int v3), (4, .int v4), (5, .int v5), (6, .int v6)]) hc 5 rfl dX7_growthBehind_129 zi_1 (hn 7 (Nat.le_of_ble_eq_true rfl)) (fun _ => rfl) fun x129 => ?_
        refine v_goto hc 45 dX7_growthBehind_132 rfl ?_
        refine v_sub (L' := [(0, .ref v0), (3, .int v3), (4, .int v4), (5, .int v5), (6, .int v6), (7, .int x129)]) [1, 2, 3, 4, 5, 0] rfl ?_
        exact ih v5 v6 x129
      · refine v_aload_n (i := 0) hc 0 rfl dX7_growthBehind_66 rfl ?_
        refine v_getV hc kX7 4 (by decide) w_189 rfl dX7_growthBehind_67 (gR rfl fun x67 => ?_)
        refine v_iload (i := 6) hc 4 rfl dX7_growthBehind_70 ?_
        refine v_bipush (x := (7 : Int32)) hc dX7_growthBehind_72 zb_7 ?_
        refine v_cI hc (m_V' (As := [.int v6, .int (7 : Int32)]) (b := x67) (rest := []) 2 hc hr (fun l D tys base => ct5_at l D tys base h x67 v6 (7 : Int32)) (fun x hx => ob5_at hx) rfl s5_at w_554 rfl ⟨Nat.le_of_ble_eq_true rfl, Nat.le_of_ble_eq_true rfl⟩ ⟨Nat.le_of_ble_eq_true rfl, Nat.le_of_ble_eq_true rfl⟩ (Nat.le_of_ble_eq_true rfl) dX7_growthBehind_74) fun x74 => ?_
        refine v_iload_n (i := 3) hc 1 rfl dX7_growthBehind_77 rfl ?_
        refine v_isub hc dX7_growthBehind_78 ?_
        refine v_cI hc (m_S' (As := [.int (x74 - v3)]) (rest := []) 1 hc hr (fun l D tys base => ctJ6_signum_0f7a4 l D tys base h (x74 - v3)) sJ6_signum_0f7a4 w_987 rfl ⟨Nat.le_of_ble_eq_true rfl, Nat.le_of_ble_eq_true rfl⟩ ⟨Nat.le_of_ble_eq_true rfl, Nat.le_of_ble_eq_true rfl⟩ (Nat.le_of_ble_eq_true rfl) dX7_growthBehind_79) fun x79 => ?_
        refine v_istore (i := 8) (L' := [(8, .int x79), (0, .ref v0), (3, .int v3), (4, .int v4), (5, .int v5), (6, .int v6), (7, .int v7)]) hc dX7_growthBehind_82 (hn 8 (Nat.le_of_ble_eq_true rfl)) rfl ?_
        refine v_aload_n (i := 0) hc 1 rfl dX7_growthBehind_84 rfl ?_
        refine v_getV hc kX7 4 (by decide) w_189 rfl dX7_growthBehind_85 (gR rfl fun x85 => ?_)
        refine v_iload (i := 7) hc 6 rfl dX7_growthBehind_88 ?_
        refine v_bipush (x := (8 : Int32)) hc dX7_growthBehind_90 zb_8 ?_
        refine v_cI hc (m_V' (As := [.int v7, .int (8 : Int32)]) (b := x85) (rest := []) 2 hc hr (fun l D tys base => ct5_at l D tys base h x85 v7 (8 : Int32)) (fun x hx => ob5_at hx) rfl s5_at w_554 rfl ⟨Nat.le_of_ble_eq_true rfl, Nat.le_of_ble_eq_true rfl⟩ ⟨Nat.le_of_ble_eq_true rfl, Nat.le_of_ble_eq_true rfl⟩ (Nat.le_of_ble_eq_true rfl) dX7_growthBehind_92) fun x92 => ?_
        refine v_aload_n (i := 0) hc 1 rfl dX7_growthBehind_95 rfl ?_
        refine v_getV hc kX7 4 (by decide) w_189 rfl dX7_growthBehind_96 (gR rfl fun x96 => ?_)
        refine v_iload (i := 6) hc 5 rfl dX7_growthBehind_99 ?_
        refine v_bipush (x := (8 : Int32)) hc dX7_growthBehind_101 zb_8 ?_
        refine v_cI hc (m_V' (As := [.int v6, .int (8 : Int32)]) (b := x96) (rest := [.int x92]) 2 hc hr (fun l D tys base => ct5_at l D tys base h x96 v6 (8 : Int32)) (fun x hx => ob5_at hx) rfl s5_at w_554 rfl ⟨Nat.le_of_ble_eq_true rfl, Nat.le_of_ble_eq_true rfl⟩ ⟨Nat.le_of_ble_eq_true rfl, Nat.le_of_ble_eq_true rfl⟩ (Nat.le_of_ble_eq_true rfl) dX7_growthBehind_103) fun x103 => ?_
        refine v_isub hc dX7_growthBehind_106 ?_
        refine v_iload (i := 4) hc 3 rfl dX7_growthBehind_107 ?_
        refine v_isub hc dX7_growthBehind_109 ?_
        refine v_cI hc (m_S' (As := [.int ((x92 - x103) - v4)]) (rest := []) 1 hc hr (fun l D tys base => ctJ6_signum_0f7a4 l D tys base h ((x92 - x103) - v4)) sJ6_signum_0f7a4 w_987 rfl ⟨Nat.le_of_ble_eq_true rfl, Nat.le_of_ble_eq_true rfl⟩ ⟨Nat.le_of_ble_eq_true rfl, Nat.le_of_ble_eq_true rfl⟩ (Nat.le_of_ble_eq_true rfl) dX7_growthBehind_110) fun x110 => ?_
        refine v_istore (i := 9) (L' := [(9, .int x110), (8, .int x79), (0, .ref v0), (3, .int v3), (4, .int v4), (5, .int v5), (6, .int v6), (7, .int v7)]) hc dX7_growthBehind_113 (hn 9 (Nat.le_of_ble_eq_true rfl)) rfl ?_
        refine v_iload (i := 5) hc 5 rfl dX7_growthBehind_115 ?_
        refine v_iload (i := 8) hc 1 rfl dX7_growthBehind_117 ?_
        refine v_iload (i := 9) hc 0 rfl dX7_growthBehind_119 ?_
        refine v_imul hc dX7_growthBehind_121 ?_
        refine v_isub hc dX7_growthBehind_122 ?_
        refine v_nmI fun x123 => ?_
        refine v_istore (i := 5) (L' := [(5, .int x123), (9, .int x110), (8, .int x79), (0, .ref v0), (3, .int v3), (4, .int v4), (6, .int v6), (7, .int v7)]) hc dX7_growthBehind_123 (hn 5 (Nat.le_of_ble_eq_true rfl)) rfl ?_
        refine v_iload (i := 7) hc 7 rfl dX7_growthBehind_125 ?_
        refine v_istore (i := 6) (L' := [(6, .int v7), (5, .int x123), (9, .int x110), (8, .int x79), (0, .ref v0), (3, .int v3), (4, .int v4), (7, .int v7)]) hc dX7_growthBehind_127 (hn 6 (Nat.le_of_ble_eq_true rfl)) rfl ?_
        refine v_iincN (i := 7) (y := (1 : Int32)) (L' := fun z => [(7, .int z), (6, .int v7), (5, .int x123), (9, .int x110), (8, .int x79), (0, .ref v0), (3, .int v3), (4, .int v4)]) hc 7 rfl dX7_growthBehind_129 zi_1 (hn 7 (Nat.le_of_ble_eq_true rfl)) (fun _ => rfl) fun x129 => ?_
        refine v_goto hc 45 dX7_growthBehind_132 rfl ?_
        refine v_sub (L' := [(0, .ref v0), (3, .int v3), (4, .int v4), (5, .int x123), (6, .int v7), (7, .int x129)]) [5, 6, 7, 2, 1, 0] rfl ?_
        exact ih x123 v7 x129
def f7_growthBehind (h : AH) (this : Nat) (p0 : Int32) (p1 : Int32) : Option (Int32) := (hObj 7 h this).bind fun _ => (fR 7 4 h this).bind fun x1 => (f5_at h x1 p0 (7 : Int32)).bind fun x7 => (fR 7 4 h this).bind fun x12 => (f5_at h x12 p1 (8 : Int32)).bind fun x18 => (fR 7 4 h this).bind fun x22 => (f5_at h x22 p0 (8 : Int32)).bind fun x28 => (some (x18 - x28)).bind fun x32 => (some (p1 + (1 : Int32))).bind fun x43 => f7_growthBehind_45 h this x7 x32 FU (0 : Int32) p1 x43
theorem ob7_growthBehind {h : AH} {this : Nat} {p0 : Int32} {p1 : Int32} {x : Int32} (e : f7_growthBehind h this p0 p1 = some x) : ∃ fs, hObj 7 h this = some fs := by
  unfold f7_growthBehind at e
  obtain ⟨fs, h1, -⟩ := bd e
  exact ⟨fs, h1⟩
set_option maxRecDepth 100000 in
theorem ct7_growthBehind (l : Launch) (D : va_G) (tys : Tys) (base : Nat) (h : AH) (this : Nat) (p0 : Int32) (p1 : Int32) : Ct l D tys base yX7_growthBehind cX7_growthBehind 10 (some .int) 4 87 0 0 [.ref this, .int p0, .int p1] h (rI h) (f7_growthBehind h this p0 p1) := by
  refine Ct.intro (own := RX7) (L := [(0, .ref this), (1, .int p0), (2, .int p1)]) rfl (by decide) rfl (Nat.le_of_ble_eq_true rfl) fun κ hc hr hq hi hL => ?_
  have hn : ∀ i, i < 10 → i < κ.2.2.2.2.1 := fun i q => hL ▸ q
  unfold f7_growthBehind
  refine v_obj ?_
  refine v_aload_n (i := 0) hc 0 rfl dX7_growthBehind_0 rfl ?_
  refine v_getV hc kX7 4 (by decide) w_189 rfl dX7_growthBehind_1 (gR rfl fun x1 => ?_)
  refine v_iload_n (i := 1) hc 1 rfl dX7_growthBehind_4 rfl ?_
  refine v_bipush (x := (7 : Int32)) hc dX7_growthBehind_5 zb_7 ?_
  refine v_cI hc (m_V' (As := [.int p0, .int (7 : Int32)]) (b := x1) (rest := []) 2 hc hr (fun l D tys base => ct5_at l D tys base h x1 p0 (7 : Int32)) (fun x hx => ob5_at hx) rfl s5_at w_554 rfl ⟨Nat.le_of_ble_eq_true rfl, Nat.le_of_ble_eq_true rfl⟩ ⟨Nat.le_of_ble_eq_true rfl, Nat.le_of_ble_eq_true rfl⟩ (Nat.le_of_ble_eq_true rfl) dX7_growthBehind_7) fun x7 => ?_
  refine v_istore_n (i := 3) (L' := [(3, .int x7), (0, .ref this), (1, .int p0), (2, .int p1)]) hc dX7_growthBehind_10 rfl (hn 3 (Nat.le_of_ble_eq_true rfl)) rfl ?_
  refine v_aload_n (i := 0) hc 1 rfl dX7_growthBehind_11 rfl ?_
  refine v_getV hc kX7 4 (by decide) w_189 rfl dX7_growthBehind_12 (gR rfl fun x12 => ?_)
  refine v_iload_n (i := 2) hc 3 rfl dX7_growthBehind_15 rfl ?_
  refine v_bipush (x := (8 : Int32)) hc dX7_growthBehind_16 zb_8 ?_
  refine v_cI hc (m_V' (As := [.int p1, .int (8 : Int32)]) (b := x12) (rest := []) 2 hc hr (fun l D tys base => ct5_at l D tys base h x12 p1 (8 : Int32)) (fun x hx => ob5_at hx) rfl s5_at w_554 rfl ⟨Nat.le_of_ble_eq_true rfl, Nat.le_of_ble_eq_true rfl⟩ ⟨Nat.le_of_ble_eq_true rfl, Nat.le_of_ble_eq_true rfl⟩ (Nat.le_of_ble_eq_true rfl) dX7_growthBehind_18) fun x18 => ?_
  refine v_aload_n (i := 0) hc 1 rfl dX7_growthBehind_21 rfl ?_
  refine v_getV hc kX7 4 (by decide) w_189 rfl dX7_growthBehind_22 (gR rfl fun x22 => ?_)
  refine v_iload_n (i := 1) hc 2 rfl dX7_growthBehind_25 rfl ?_
  refine v_bipush (x := (8 : Int32)) hc dX7_growthBehind_26 zb_8 ?_
  refine v_cI hc (m_V' (As := [.int p0, .int (8 : Int32)]) (b := x22) (rest := [.int x18]) 2 hc hr (fun l D tys base => ct5_at l D tys base h x22 p0 (8 : Int32)) (fun x hx => ob5_at hx) rfl s5_at w_554 rfl ⟨Nat.le_of_ble_eq_true rfl, Nat.le_of_ble_eq_true rfl⟩ ⟨Nat.le_of_ble_eq_true rfl, Nat.le_of_ble_eq_true rfl⟩ (Nat.le_of_ble_eq_true rfl) dX7_growthBehind_28) fun x28 => ?_
  refine v_isub hc dX7_growthBehind_31 ?_
  refine v_nmI fun x32 => ?_
  refine v_istore (i := 4) (L' := [(4, .int x32), (3, .int x7), (0, .ref this), (1, .int p0), (2, .int p1)]) hc dX7_growthBehind_32 (hn 4 (Nat.le_of_ble_eq_true rfl)) rfl ?_
  refine v_iconst (x := (0 : Int32)) hc dX7_growthBehind_34 zi_0 ?_
  refine v_istore (i := 5) (L' := [(5, .int (0 : Int32)), (4, .int x32), (3, .int x7), (0, .ref this), (1, .int p0), (2, .int p1)]) hc dX7_growthBehind_35 (hn 5 (Nat.le_of_ble_eq_true rfl)) rfl ?_
  refine v_iload_n (i := 2) hc 5 rfl dX7_growthBehind_37 rfl ?_
  refine v_istore (i := 6) (L' := [(6, .int p1), (5, .int (0 : Int32)), (4, .int x32), (3, .int x7), (0, .ref this), (1, .int p0), (2, .int p1)]) hc dX7_growthBehind_38 (hn 6 (Nat.le_of_ble_eq_true rfl)) rfl ?_
  refine v_iload_n (i := 2) hc 6 rfl dX7_growthBehind_40 rfl ?_
  refine v_iconst (x := (1 : Int32)) hc dX7_growthBehind_41 zi_1 ?_
  refine v_iadd hc dX7_growthBehind_42 ?_
  refine v_nmI fun x43 => ?_
  refine v_istore (i := 7) (L' := [(7, .int x43), (6, .int p1), (5, .int (0 : Int32)), (4, .int x32), (3, .int x7), (0, .ref this), (1, .int p0), (2, .int p1)]) hc dX7_growthBehind_43 (hn 7 (Nat.le_of_ble_eq_true rfl)) rfl ?_
  refine v_sub (L' := [(0, .ref this), (3, .int x7), (4, .int x32), (5, .int (0 : Int32)), (6, .int p1), (7, .int x43)]) [5, 4, 3, 2, 1, 0] rfl ?_
  exact vl7_growthBehind_45 hc hr hq hL h this x7 x32 FU (0 : Int32) p1 x43
theorem s7_growthBehind : YV yX7_growthBehind RX7 cX7_growthBehind 10 (some .int) 2 := ⟨w_986, w_985, w_38, w_109, rfl, by decide +kernel, by decide +kernel, by decide +kernel⟩
def f7_growth_6 (h : AH) (v0 : Nat) : Nat → Int32 → Int32 → Int32 → Option (Int32)
  | 0, _, _, _ => none
  | n + 1, v1, v2, v3 => (fR 7 4 h v0).bind fun x8 => (f5_size h x8).bind fun x11 => (if x11 ≤ v3 then some v1 else (f7_isVolume h v0 v3).bind fun x19 => (if x19 = true then (if v2 = (-1 : Int32) then (some (v1 + (0 : Int32))).bind fun x42 => (some (v3 + (1 : Int32))).bind fun x45 => f7_growth_6 h v0 n x42 v3 x45 else (f7_growthBehind h v0 v2 v3).bind fun x38 => (some (v1 + x38)).bind fun x42 => (some (v3 + (1 : Int32))).bind fun x45 => f7_growth_6 h v0 n x42 v3 x45) else (some (v3 + (1 : Int32))).bind fun x45 => f7_growth_6 h v0 n v1 v2 x45))
set_option maxRecDepth 100000 in
theorem vl7_growth_6 {κ : Kx} (hc : CX κ RX7 cX7_growth) (hr : RX κ ({ frames := 5, cells := 0, slots := 0, locals := 116 } : Room)) (hq : QX κ (some .int) 0 0) (hL : 4 = κ.2.2.2.2.1)  (h : AH) (v0 : Nat) : ∀ n (v1 : Int32) (v2 : Int32) (v3 : Int32), V κ (rI h) 0 0 6 [(0, .ref v0), (1, .int v1), (2, .int v2), (3, .int v3)] [] h (f7_growth_6 h v0 n v1 v2 v3) := by
  have hn : ∀ i, i < 4 → i < κ.2.2.2.2.1 := fun i q => hL ▸ q
  intro n
  induction n with
  | zero => intros; exact v_none
  | succ n ih =>
    intro v1 v2 v3
    rw [f7_growth_6.eq_2]
    refine v_iload_n (i := 3) hc 3 rfl dX7_growth_6 rfl ?_
    refine v_aload_n (i := 0) hc 0 rfl dX7_growth_7 rfl ?_
    refine v_getV hc kX7 4 (by decide) w_189 rfl dX7_growth_8 (gR rfl fun x8 => ?_)
    refine v_cI hc (m_V' (As := []) (b := x8) (rest := [.int v3]) 0 hc hr (fun l D tys base => ct5_size l D tys base h x8) (fun x hx => ob5_size hx) rfl s5_size w_556 rfl ⟨Nat.le_of_ble_eq_true rfl, Nat.le_of_ble_eq_true rfl⟩ ⟨Nat.le_of_ble_eq_true rfl, Nat.le_of_ble_eq_true rfl⟩ (Nat.le_of_ble_eq_true rfl) dX7_growth_11) fun x11 => ?_
    refine v_icmp_ge hc 51 dX7_growth_14 rfl ?_ ?_
    · refine v_iload_n (i := 1) hc 1 rfl dX7_growth_51 rfl ?_
      exact v_iret hc hq rfl rfl (Nat.le_of_ble_eq_true rfl) (Nat.le_of_ble_eq_true rfl) rfl dX7_growth_52
    · refine v_aload_n (i := 0) hc 0 rfl dX7_growth_17 rfl ?_
      refine v_iload_n (i := 3) hc 3 rfl dX7_growth_18 rfl ?_
      refine v_cB hc (m_V' (As := [.int v3]) (b := v0) (rest := []) 1 hc hr (fun l D tys base => ct7_isVolume l D tys base h v0 v3) (fun x hx => ob7_isVolume hx) rfl s7_isVolume w_826 rfl ⟨Nat.le_of_ble_eq_true rfl, Nat.le_of_ble_eq_true rfl⟩ ⟨Nat.le_of_ble_eq_true rfl, Nat.le_of_ble_eq_true rfl⟩ (Nat.le_of_ble_eq_true rfl) dX7_growth_19) fun x19 => ?_
      refine v_ifb_eq hc 45 dX7_growth_22 rfl ?_ ?_
      · refine v_iincN (i := 3) (y := (1 : Int32)) (L' := fun z => [(3, .int z), (0, .ref v0), (1, .int v1), (2, .int v2)]) hc 3 rfl dX7_growth_45 zi_1 (hn 3 (Nat.le_of_ble_eq_true rfl)) (fun _ => rfl) fun x45 => ?_
        refine v_goto hc 6 dX7_growth_48 rfl ?_
        refine v_sub (L' := [(0, .ref v0), (1, .int v1), (2, .int v2), (3, .int x45)]) [1, 2, 3, 0] rfl ?_
        exact ih v1 v2 x45
      · refine v_iload_n (i := 1) hc 1 rfl dX7_growth_25 rfl ?_
        refine v_iload_n (i := 2) hc 2 rfl dX7_growth_26 rfl ?_
        refine v_iconst (x := (-1 : Int32)) hc dX7_growth_27 zi_m1 ?_
        refine v_icmp_ne hc 35 dX7_growth_28 rfl ?_ ?_
        · refine v_aload_n (i := 0) hc 0 rfl dX7_growth_35 rfl ?_
          refine v_iload_n (i := 2) hc 2 rfl dX7_growth_36 rfl ?_
          refine v_iload_n (i := 3) hc 3 rfl dX7_growth_37 rfl ?_
          refine v_cI hc (m_V' (As := [.int v2, .int v3]) (b := v0) (rest := [.int v1]) 2 hc hr (fun l D tys base => ct7_growthBehind l D tys base h v0 v2 v3) (fun x hx => ob7_growthBehind hx) rfl s7_growthBehind w_983 rfl ⟨Nat.le_of_ble_eq_true rfl, Nat.le_of_ble_eq_true rfl⟩ ⟨Nat.le_of_ble_eq_true rfl, Nat.le_of_ble_eq_true rfl⟩ (Nat.le_of_ble_eq_true rfl) dX7_growth_38) fun x38 => ?_
          refine v_iadd hc dX7_growth_41 ?_
          refine v_nmI fun x42 => ?_
          refine v_istore_n (i := 1) (L' := [(1, .int x42), (0, .ref v0), (2, .int v2), (3, .int v3)]) hc dX7_growth_42 rfl (hn 1 (Nat.le_of_ble_eq_true rfl)) rfl ?_
          refine v_iload_n (i := 3) hc 3 rfl dX7_growth_43 rfl ?_
          refine v_istore_n (i := 2) (L' := [(2, .int v3), (1, .int x42), (0, .ref v0), (3, .int v3)]) hc dX7_growth_44 rfl (hn 2 (Nat.le_of_ble_eq_true rfl)) rfl ?_
          refine v_iincN (i := 3) (y := (1 : Int32)) (L' := fun z => [(3, .int z), (2, .int v3), (1, .int x42), (0, .ref v0)]) hc 3 rfl dX7_growth_45 zi_1 (hn 3 (Nat.le_of_ble_eq_true rfl)) (fun _ => rfl) fun x45 => ?_
          refine v_goto hc 6 dX7_growth_48 rfl ?_
          refine v_sub (L' := [(0, .ref v0), (1, .int x42), (2, .int v3), (3, .int x45)]) [3, 2, 1, 0] rfl ?_
          exact ih x42 v3 x45
        · refine v_iconst (x := (0 : Int32)) hc dX7_growth_31 zi_0 ?_
          refine v_goto hc 41 dX7_growth_32 rfl ?_
          refine v_iadd hc dX7_growth_41 ?_
          refine v_nmI fun x42 => ?_
          refine v_istore_n (i := 1) (L' := [(1, .int x42), (0, .ref v0), (2, .int v2), (3, .int v3)]) hc dX7_growth_42 rfl (hn 1 (Nat.le_of_ble_eq_true rfl)) rfl ?_
          refine v_iload_n (i := 3) hc 3 rfl dX7_growth_43 rfl ?_
          refine v_istore_n (i := 2) (L' := [(2, .int v3), (1, .int x42), (0, .ref v0), (3, .int v3)]) hc dX7_growth_44 rfl (hn 2 (Nat.le_of_ble_eq_true rfl)) rfl ?_
          refine v_iincN (i := 3) (y := (1 : Int32)) (L' := fun z => [(3, .int z), (2, .int v3), (1, .int x42), (0, .ref v0)]) hc 3 rfl dX7_growth_45 zi_1 (hn 3 (Nat.le_of_ble_eq_true rfl)) (fun _ => rfl) fun x45 => ?_
          refine v_goto hc 6 dX7_growth_48 rfl ?_
          refine v_sub (L' := [(0, .ref v0), (1, .int x42), (2, .int v3), (3, .int x45)]) [3, 2, 1, 0] rfl ?_
          exact ih x42 v3 x45
def f7_growth (h : AH) (this : Nat) : Option (Int32) := (hObj 7 h this).bind fun _ => f7_growth_6 h this FU (0 : Int32) (-1 : Int32) (0 : Int32)
theorem ob7_growth {h : AH} {this : Nat} {x : Int32} (e : f7_growth h this = some x) : ∃ fs, hObj 7 h this = some fs := by
  unfold f7_growth at e
  obtain ⟨fs, h1, -⟩ := bd e
  exact ⟨fs, h1⟩
set_option maxRecDepth 100000 in
theorem ct7_growth (l : Launch) (D : va_G) (tys : Tys) (base : Nat) (h : AH) (this : Nat) : Ct l D tys base yX7_growth cX7_growth 4 (some .int) 5 116 0 0 [.ref this] h (rI h) (f7_growth h this) := by
  refine Ct.intro (own := RX7) (L := [(0, .ref this)]) rfl (by decide) rfl (Nat.le_of_ble_eq_true rfl) fun κ hc hr hq hi hL => ?_
  have hn : ∀ i, i < 4 → i < κ.2.2.2.2.1 := fun i q => hL ▸ q
  unfold f7_growth
  refine v_obj ?_
  refine v_iconst (x := (0 : Int32)) hc dX7_growth_0 zi_0 ?_
  refine v_istore_n (i := 1) (L' := [(1, .int (0 : Int32)), (0, .ref this)]) hc dX7_growth_1 rfl (hn 1 (Nat.le_of_ble_eq_true rfl)) rfl ?_
  refine v_iconst (x := (-1 : Int32)) hc dX7_growth_2 zi_m1 ?_
  refine v_istore_n (i := 2) (L' := [(2, .int (-1 : Int32)), (1, .int (0 : Int32)), (0, .ref this)]) hc dX7_growth_3 rfl (hn 2 (Nat.le_of_ble_eq_true rfl)) rfl ?_
  refine v_iconst (x := (0 : Int32)) hc dX7_growth_4 zi_0 ?_
  refine v_istore_n (i := 3) (L' := [(3, .int (0 : Int32)), (2, .int (-1 : Int32)), (1, .int (0 : Int32)), (0, .ref this)]) hc dX7_growth_5 rfl (hn 3 (Nat.le_of_ble_eq_true rfl)) rfl ?_
  refine v_sub (L' := [(0, .ref this), (1, .int (0 : Int32)), (2, .int (-1 : Int32)), (3, .int (0 : Int32))]) [3, 2, 1, 0] rfl ?_
  exact vl7_growth_6 hc hr hq hL h this FU (0 : Int32) (-1 : Int32) (0 : Int32)
theorem s7_growth : YV yX7_growth RX7 cX7_growth 4 (some .int) 0 := ⟨w_982, w_980, w_981, w_109, rfl, by decide +kernel, by decide +kernel, by decide +kernel⟩
def f7_knewWrongDay_35 (h : AH) (v0 : Nat) (v3 : Int32) (v4 : Int32) (v5 : Int32) : Nat → Int32 → Option (Bool)
  | 0, _ => none
  | n + 1, v6 => (if v5 ≤ v6 then some false else (f7_dayOfPage h v0 v6).bind fun x45 => (f8_isFrom h x45 v3 v4).bind fun x51 => (if x51 = true then (f7_isWrong h v0 v6).bind fun x60 => (if x60 = true then some true else (some (v6 + (1 : Int32))).bind fun x68 => f7_knewWrongDay_35 h v0 v3 v4 v5 n x68) else (some (v6 + (1 : Int32))).bind fun x68 => f7_knewWrongDay_35 h v0 v3 v4 v5 n x68))
set_option maxRecDepth 100000 in
theorem vl7_knewWrongDay_35 {κ : Kx} (hc : CX κ RX7 cX7_knewWrongDay) (hr : RX κ ({ frames := 4, cells := 0, slots := 0, locals := 108 } : Room)) (hq : QX κ (some .boolean) 0 0) (hL : 7 = κ.2.2.2.2.1)  (h : AH) (v0 : Nat) (v3 : Int32) (v4 : Int32) (v5 : Int32) : ∀ n (v6 : Int32), V κ (rB h) 0 0 35 [(0, .ref v0), (3, .int v3), (4, .int v4), (5, .int v5), (6, .int v6)] [] h (f7_knewWrongDay_35 h v0 v3 v4 v5 n v6) := by
  have hn : ∀ i, i < 7 → i < κ.2.2.2.2.1 := fun i q => hL ▸ q
  intro n
  induction n with
  | zero => intros; exact v_none
  | succ n ih =>
    intro v6
    rw [f7_knewWrongDay_35.eq_2]
    refine v_iload (i := 6) hc 4 rfl dX7_knewWrongDay_35 ?_
    refine v_iload (i := 5) hc 3 rfl dX7_knewWrongDay_37 ?_
    refine v_icmp_ge hc 74 dX7_knewWrongDay_39 rfl ?_ ?_
    · refine v_iconst (x := (0 : Int32)) hc dX7_knewWrongDay_74 zi_0 ?_
      exact v_iret (v := bI false) hc hq rfl (nar_b false) (Nat.le_of_ble_eq_true rfl) (Nat.le_of_ble_eq_true rfl) rfl dX7_knewWrongDay_75
    · refine v_aload_n (i := 0) hc 0 rfl dX7_knewWrongDay_42 rfl ?_
      refine v_iload (i := 6) hc 4 rfl dX7_knewWrongDay_43 ?_
      refine v_cI hc (m_V' (As := [.int v6]) (b := v0) (rest := []) 1 hc hr (fun l D tys base => ct7_dayOfPage l D tys base h v0 v6) (fun x hx => ob7_dayOfPage hx) rfl s7_dayOfPage w_508 rfl ⟨Nat.le_of_ble_eq_true rfl, Nat.le_of_ble_eq_true rfl⟩ ⟨Nat.le_of_ble_eq_true rfl, Nat.le_of_ble_eq_true rfl⟩ (Nat.le_of_ble_eq_true rfl) dX7_knewWrongDay_45) fun x45 => ?_
      refine v_iload_n (i := 3) hc 1 rfl dX7_knewWrongDay_48 rfl ?_
      refine v_iload (i := 4) hc 2 rfl dX7_knewWrongDay_49 ?_
      refine v_cB hc (m_SN' (As := [.int x45, .int v3, .int v4]) (rest := []) 3 hc hr (fun l D tys base => ct8_isFrom l D tys base h x45 v3 v4) s8_isFrom w_1091 rfl ⟨Nat.le_of_ble_eq_true rfl, Nat.le_of_ble_eq_true rfl⟩ ⟨Nat.le_of_ble_eq_true rfl, Nat.le_of_ble_eq_true rfl⟩ (Nat.le_of_ble_eq_true rfl) dX7_knewWrongDay_51) fun x51 => ?_
      refine v_ifb_eq hc 68 dX7_knewWrongDay_54 rfl ?_ ?_
      · refine v_iincN (i := 6) (y := (1 : Int32)) (L' := fun z => [(6, .int z), (0, .ref v0), (3, .int v3), (4, .int v4), (5, .int v5)]) hc 4 rfl dX7_knewWrongDay_68 zi_1 (hn 6 (Nat.le_of_ble_eq_true rfl)) (fun _ => rfl) fun x68 => ?_
        refine v_goto hc 35 dX7_knewWrongDay_71 rfl ?_
        refine v_sub (L' := [(0, .ref v0), (3, .int v3), (4, .int v4), (5, .int v5), (6, .int x68)]) [1, 2, 3, 4, 0] rfl ?_
        exact ih x68
      · refine v_aload_n (i := 0) hc 0 rfl dX7_knewWrongDay_57 rfl ?_
        refine v_iload (i := 6) hc 4 rfl dX7_knewWrongDay_58 ?_
        refine v_cB hc (m_V' (As := [.int v6]) (b := v0) (rest := []) 1 hc hr (fun l D tys base => ct7_isWrong l D tys base h v0 v6) (fun x hx => ob7_isWrong hx) rfl s7_isWrong w_504 rfl ⟨Nat.le_of_ble_eq_true rfl, Nat.le_of_ble_eq_true rfl⟩ ⟨Nat.le_of_ble_eq_true rfl, Nat.le_of_ble_eq_true rfl⟩ (Nat.le_of_ble_eq_true rfl) dX7_knewWrongDay_60) fun x60 => ?_
        refine v_ifb_eq hc 68 dX7_knewWrongDay_63 rfl ?_ ?_
        · refine v_iincN (i := 6) (y := (1 : Int32)) (L' := fun z => [(6, .int z), (0, .ref v0), (3, .int v3), (4, .int v4), (5, .int v5)]) hc 4 rfl dX7_knewWrongDay_68 zi_1 (hn 6 (Nat.le_of_ble_eq_true rfl)) (fun _ => rfl) fun x68 => ?_
          refine v_goto hc 35 dX7_knewWrongDay_71 rfl ?_
          refine v_sub (L' := [(0, .ref v0), (3, .int v3), (4, .int v4), (5, .int v5), (6, .int x68)]) [1, 2, 3, 4, 0] rfl ?_
          exact ih x68
        · refine v_iconst (x := (1 : Int32)) hc dX7_knewWrongDay_66 zi_1 ?_
          exact v_iret (v := bI true) hc hq rfl (nar_b true) (Nat.le_of_ble_eq_true rfl) (Nat.le_of_ble_eq_true rfl) rfl dX7_knewWrongDay_67
def f7_knewWrongDay (h : AH) (this : Nat) (p0 : Int32) (p1 : Int32) : Option (Bool) := (hObj 7 h this).bind fun _ => (fR 7 8 h this).bind fun x1 => (f5_at h x1 p0 (0 : Int32)).bind fun x6 => (fR 7 8 h this).bind fun x11 => (f5_at h x11 p0 (1 : Int32)).bind fun x16 => (f7_pagesEnd h this p1).bind fun x23 => (f7_firstPage h this p1).bind fun x30 => f7_knewWrongDay_35 h this x6 x16 x23 FU x30
theorem ob7_knewWrongDay {h : AH} {this : Nat} {p0 : Int32} {p1 : Int32} {x : Bool} (e : f7_knewWrongDay h this p0 p1 = some x) : ∃ fs, hObj 7 h this = some fs := by
  unfold f7_knewWrongDay at e
  obtain ⟨fs, h1, -⟩ := bd e
  exact ⟨fs, h1⟩
set_option maxRecDepth 100000 in
theorem ct7_knewWrongDay (l : Launch) (D : va_G) (tys : Tys) (base : Nat) (h : AH) (this : Nat) (p0 : Int32) (p1 : Int32) : Ct l D tys base yX7_knewWrongDay cX7_knewWrongDay 7 (some .boolean) 4 108 0 0 [.ref this, .int p0, .int p1] h (rB h) (f7_knewWrongDay h this p0 p1) := by
  refine Ct.intro (own := RX7) (L := [(0, .ref this), (1, .int p0), (2, .int p1)]) rfl (by decide) rfl (Nat.le_of_ble_eq_true rfl) fun κ hc hr hq hi hL => ?_
  have hn : ∀ i, i < 7 → i < κ.2.2.2.2.1 := fun i q => hL ▸ q
  unfold f7_knewWrongDay
  refine v_obj ?_
  refine v_aload_n (i := 0) hc 0 rfl dX7_knewWrongDay_0 rfl ?_
  refine v_getV hc kX7 8 (by decide) w_199 rfl dX7_knewWrongDay_1 (gR rfl fun x1 => ?_)
  refine v_iload_n (i := 1) hc 1 rfl dX7_knewWrongDay_4 rfl ?_
  refine v_iconst (x := (0 : Int32)) hc dX7_knewWrongDay_5 zi_0 ?_
  refine v_cI hc (m_V' (As := [.int p0, .int (0 : Int32)]) (b := x1) (rest := []) 2 hc hr (fun l D tys base => ct5_at l D tys base h x1 p0 (0 : Int32)) (fun x hx => ob5_at hx) rfl s5_at w_554 rfl ⟨Nat.le_of_ble_eq_true rfl, Nat.le_of_ble_eq_true rfl⟩ ⟨Nat.le_of_ble_eq_true rfl, Nat.le_of_ble_eq_true rfl⟩ (Nat.le_of_ble_eq_true rfl) dX7_knewWrongDay_6) fun x6 => ?_
  refine v_istore_n (i := 3) (L' := [(3, .int x6), (0, .ref this), (1, .int p0), (2, .int p1)]) hc dX7_knewWrongDay_9 rfl (hn 3 (Nat.le_of_ble_eq_true rfl)) rfl ?_
  refine v_aload_n (i := 0) hc 1 rfl dX7_knewWrongDay_10 rfl ?_
  refine v_getV hc kX7 8 (by decide) w_199 rfl dX7_knewWrongDay_11 (gR rfl fun x11 => ?_)
  refine v_iload_n (i := 1) hc 2 rfl dX7_knewWrongDay_14 rfl ?_
  refine v_iconst (x := (1 : Int32)) hc dX7_knewWrongDay_15 zi_1 ?_
  refine v_cI hc (m_V' (As := [.int p0, .int (1 : Int32)]) (b := x11) (rest := []) 2 hc hr (fun l D tys base => ct5_at l D tys base h x11 p0 (1 : Int32)) (fun x hx => ob5_at hx) rfl s5_at w_554 rfl ⟨Nat.le_of_ble_eq_true rfl, Nat.le_of_ble_eq_true rfl⟩ ⟨Nat.le_of_ble_eq_true rfl, Nat.le_of_ble_eq_true rfl⟩ (Nat.le_of_ble_eq_true rfl) dX7_knewWrongDay_16) fun x16 => ?_
  refine v_istore (i := 4) (L' := [(4, .int x16), (3, .int x6), (0, .ref this), (1, .int p0), (2, .int p1)]) hc dX7_knewWrongDay_19 (hn 4 (Nat.le_of_ble_eq_true rfl)) rfl ?_
  refine v_aload_n (i := 0) hc 2 rfl dX7_knewWrongDay_21 rfl ?_
  refine v_iload_n (i := 2) hc 4 rfl dX7_knewWrongDay_22 rfl ?_
  refine v_cI hc (m_V' (As := [.int p1]) (b := this) (rest := []) 1 hc hr (fun l D tys base => ct7_pagesEnd l D tys base h this p1) (fun x hx => ob7_pagesEnd hx) rfl s7_pagesEnd w_491 rfl ⟨Nat.le_of_ble_eq_true rfl, Nat.le_of_ble_eq_true rfl⟩ ⟨Nat.le_of_ble_eq_true rfl, Nat.le_of_ble_eq_true rfl⟩ (Nat.le_of_ble_eq_true rfl) dX7_knewWrongDay_23) fun x23 => ?_
  refine v_istore (i := 5) (L' := [(5, .int x23), (4, .int x16), (3, .int x6), (0, .ref this), (1, .int p0), (2, .int p1)]) hc dX7_knewWrongDay_26 (hn 5 (Nat.le_of_ble_eq_true rfl)) rfl ?_
  refine v_aload_n (i := 0) hc 3 rfl dX7_knewWrongDay_28 rfl ?_
  refine v_iload_n (i := 2) hc 5 rfl dX7_knewWrongDay_29 rfl ?_
  refine v_cI hc (m_V' (As := [.int p1]) (b := this) (rest := []) 1 hc hr (fun l D tys base => ct7_firstPage l D tys base h this p1) (fun x hx => ob7_firstPage hx) rfl s7_firstPage w_496 rfl ⟨Nat.le_of_ble_eq_true rfl, Nat.le_of_ble_eq_true rfl⟩ ⟨Nat.le_of_ble_eq_true rfl, Nat.le_of_ble_eq_true rfl⟩ (Nat.le_of_ble_eq_true rfl) dX7_knewWrongDay_30) fun x30 => ?_
  refine v_istore (i := 6) (L' := [(6, .int x30), (5, .int x23), (4, .int x16), (3, .int x6), (0, .ref this), (1, .int p0), (2, .int p1)]) hc dX7_knewWrongDay_33 (hn 6 (Nat.le_of_ble_eq_true rfl)) rfl ?_
  refine v_sub (L' := [(0, .ref this), (3, .int x6), (4, .int x16), (5, .int x23), (6, .int x30)]) [4, 3, 2, 1, 0] rfl ?_
  exact vl7_knewWrongDay_35 hc hr hq hL h this x6 x16 x23 FU x30
theorem s7_knewWrongDay : YV yX7_knewWrongDay RX7 cX7_knewWrongDay 7 (some .boolean) 2 := ⟨w_1090, w_1089, w_46, w_109, rfl, by decide +kernel, by decide +kernel, by decide +kernel⟩
def f7_unaskedUpTo_46 (k5 : Int32 → Int32 → Option (Int32)) (h : AH) (v0 : Nat) (v1 : Int32) (v2 : Int32) (v3 : Int32) (v4 : Int32) (s0 : Bool) : Option (Int32) := (if s0 = true then (some (v4 + (1 : Int32))).bind fun x70 => k5 v3 x70 else (f7_knewWrongDay h v0 v4 v1).bind fun x57 => (if x57 = true then (some (v3 ||| ((1 : Int32) <<< (v4 &&& 31)))).bind fun x69 => (some (v4 + (1 : Int32))).bind fun x70 => k5 x69 x70 else (some (v4 + (1 : Int32))).bind fun x70 => k5 v3 x70))
set_option maxRecDepth 100000 in
theorem vl7_unaskedUpTo_46 {κ : Kx} (hc : CX κ RX7 cX7_unaskedUpTo) (hr : RX κ ({ frames := 5, cells := 0, slots := 0, locals := 134 } : Room)) (hq : QX κ (some .int) 0 0) (hL : 7 = κ.2.2.2.2.1) (k5 : Int32 → Int32 → Option (Int32)) (h : AH) (v0 : Nat) (v1 : Int32) (v2 : Int32) (hk5 : ∀ (v3 : Int32) (v4 : Int32), V κ (rI h) 0 0 5 [(0, .ref v0), (1, .int v1), (2, .int v2), (3, .int v3), (4, .int v4)] [] h (k5 v3 v4)) (v3 : Int32) (v4 : Int32) (s0 : Bool) : V κ (rI h) 0 0 46 [(0, .ref v0), (1, .int v1), (2, .int v2), (3, .int v3), (4, .int v4)] [.int (bI s0)] h (f7_unaskedUpTo_46 k5 h v0 v1 v2 v3 v4 s0) := by
  have hn : ∀ i, i < 7 → i < κ.2.2.2.2.1 := fun i q => hL ▸ q
  unfold f7_unaskedUpTo_46
  refine v_istore (i := 6) (L' := [(6, .int (bI s0)), (0, .ref v0), (1, .int v1), (2, .int v2), (3, .int v3), (4, .int v4)]) hc dX7_unaskedUpTo_46 (hn 6 (Nat.le_of_ble_eq_true rfl)) rfl ?_
  refine v_iload (i := 6) hc 0 rfl dX7_unaskedUpTo_48 ?_
  refine v_ifb_ne hc 70 dX7_unaskedUpTo_50 rfl ?_ ?_
  · refine v_iincN (i := 4) (y := (1 : Int32)) (L' := fun z => [(4, .int z), (6, .int (bI s0)), (0, .ref v0), (1, .int v1), (2, .int v2), (3, .int v3)]) hc 5 rfl dX7_unaskedUpTo_70 zi_1 (hn 4 (Nat.le_of_ble_eq_true rfl)) (fun _ => rfl) fun x70 => ?_
    refine v_goto hc 5 dX7_unaskedUpTo_73 rfl ?_
    refine v_sub (L' := [(0, .ref v0), (1, .int v1), (2, .int v2), (3, .int v3), (4, .int x70)]) [2, 3, 4, 5, 0] rfl ?_
    exact hk5 v3 x70
  · refine v_aload_n (i := 0) hc 1 rfl dX7_unaskedUpTo_53 rfl ?_
    refine v_iload (i := 4) hc 5 rfl dX7_unaskedUpTo_54 ?_
    refine v_iload_n (i := 1) hc 2 rfl dX7_unaskedUpTo_56 rfl ?_
    refine v_cB hc (m_V' (As := [.int v4, .int v1]) (b := v0) (rest := []) 2 hc hr (fun l D tys base => ct7_knewWrongDay l D tys base h v0 v4 v1) (fun x hx => ob7_knewWrongDay hx) rfl s7_knewWrongDay w_1087 rfl ⟨Nat.le_of_ble_eq_true rfl, Nat.le_of_ble_eq_true rfl⟩ ⟨Nat.le_of_ble_eq_true rfl, Nat.le_of_ble_eq_true rfl⟩ (Nat.le_of_ble_eq_true rfl) dX7_unaskedUpTo_57) fun x57 => ?_
    refine v_ifb_eq hc 70 dX7_unaskedUpTo_60 rfl ?_ ?_
    · refine v_iincN (i := 4) (y := (1 : Int32)) (L' := fun z => [(4, .int z), (6, .int (bI s0)), (0, .ref v0), (1, .int v1), (2, .int v2), (3, .int v3)]) hc 5 rfl dX7_unaskedUpTo_70 zi_1 (hn 4 (Nat.le_of_ble_eq_true rfl)) (fun _ => rfl) fun x70 => ?_
      refine v_goto hc 5 dX7_unaskedUpTo_73 rfl ?_
      refine v_sub (L' := [(0, .ref v0), (1, .int v1), (2, .int v2), (3, .int v3), (4, .int x70)]) [2, 3, 4, 5, 0] rfl ?_
      exact hk5 v3 x70
    · refine v_iload_n (i := 3) hc 4 rfl dX7_unaskedUpTo_63 rfl ?_
      refine v_iconst (x := (1 : Int32)) hc dX7_unaskedUpTo_64 zi_1 ?_
      refine v_iload (i := 4) hc 5 rfl dX7_unaskedUpTo_65 ?_
      refine v_ishl hc dX7_unaskedUpTo_67 ?_
      refine v_ior hc dX7_unaskedUpTo_68 ?_
      refine v_nmI fun x69 => ?_
      refine v_istore_n (i := 3) (L' := [(3, .int x69), (6, .int (bI s0)), (0, .ref v0), (1, .int v1), (2, .int v2), (4, .int v4)]) hc dX7_unaskedUpTo_69 rfl (hn 3 (Nat.le_of_ble_eq_true rfl)) rfl ?_
      refine v_iincN (i := 4) (y := (1 : Int32)) (L' := fun z => [(4, .int z), (3, .int x69), (6, .int (bI s0)), (0, .ref v0), (1, .int v1), (2, .int v2)]) hc 5 rfl dX7_unaskedUpTo_70 zi_1 (hn 4 (Nat.le_of_ble_eq_true rfl)) (fun _ => rfl) fun x70 => ?_
      refine v_goto hc 5 dX7_unaskedUpTo_73 rfl ?_
      refine v_sub (L' := [(0, .ref v0), (1, .int v1), (2, .int v2), (3, .int x69), (4, .int x70)]) [3, 4, 5, 1, 0] rfl ?_
      exact hk5 x69 x70
def f7_unaskedUpTo_5 (h : AH) (v0 : Nat) (v1 : Int32) (v2 : Int32) : Nat → Int32 → Int32 → Option (Int32)
  | 0, _, _ => none
  | n + 1, v3, v4 => (fR 7 8 h v0).bind fun x8 => (f5_size h x8).bind fun x11 => (if x11 ≤ v4 then some v3 else (fR 7 8 h v0).bind fun x18 => (f5_at h x18 v4 (4 : Int32)).bind fun x24 => (if x24 = (-1 : Int32) then f7_unaskedUpTo_46 (fun v3 v4 => f7_unaskedUpTo_5 h v0 v1 v2 n v3 v4) h v0 v1 v2 v3 v4 false else (if v2 < x24 then f7_unaskedUpTo_46 (fun v3 v4 => f7_unaskedUpTo_5 h v0 v1 v2 n v3 v4) h v0 v1 v2 v3 v4 false else f7_unaskedUpTo_46 (fun v3 v4 => f7_unaskedUpTo_5 h v0 v1 v2 n v3 v4) h v0 v1 v2 v3 v4 true)))
set_option maxRecDepth 100000 in
theorem vl7_unaskedUpTo_5 {κ : Kx} (hc : CX κ RX7 cX7_unaskedUpTo) (hr : RX κ ({ frames := 5, cells := 0, slots := 0, locals := 134 } : Room)) (hq : QX κ (some .int) 0 0) (hL : 7 = κ.2.2.2.2.1)  (h : AH) (v0 : Nat) (v1 : Int32) (v2 : Int32) : ∀ n (v3 : Int32) (v4 : Int32), V κ (rI h) 0 0 5 [(0, .ref v0), (1, .int v1), (2, .int v2), (3, .int v3), (4, .int v4)] [] h (f7_unaskedUpTo_5 h v0 v1 v2 n v3 v4) := by
  have hn : ∀ i, i < 7 → i < κ.2.2.2.2.1 := fun i q => hL ▸ q
  intro n
  induction n with
  | zero => intros; exact v_none
  | succ n ih =>
    intro v3 v4
    rw [f7_unaskedUpTo_5.eq_2]
    refine v_iload (i := 4) hc 4 rfl dX7_unaskedUpTo_5 ?_
    refine v_aload_n (i := 0) hc 0 rfl dX7_unaskedUpTo_7 rfl ?_
    refine v_getV hc kX7 8 (by decide) w_199 rfl dX7_unaskedUpTo_8 (gR rfl fun x8 => ?_)
    refine v_cI hc (m_V' (As := []) (b := x8) (rest := [.int v4]) 0 hc hr (fun l D tys base => ct5_size l D tys base h x8) (fun x hx => ob5_size hx) rfl s5_size w_556 rfl ⟨Nat.le_of_ble_eq_true rfl, Nat.le_of_ble_eq_true rfl⟩ ⟨Nat.le_of_ble_eq_true rfl, Nat.le_of_ble_eq_true rfl⟩ (Nat.le_of_ble_eq_true rfl) dX7_unaskedUpTo_11) fun x11 => ?_
    refine v_icmp_ge hc 76 dX7_unaskedUpTo_14 rfl ?_ ?_
    · refine v_iload_n (i := 3) hc 3 rfl dX7_unaskedUpTo_76 rfl ?_
      exact v_iret hc hq rfl rfl (Nat.le_of_ble_eq_true rfl) (Nat.le_of_ble_eq_true rfl) rfl dX7_unaskedUpTo_77
    · refine v_aload_n (i := 0) hc 0 rfl dX7_unaskedUpTo_17 rfl ?_
      refine v_getV hc kX7 8 (by decide) w_199 rfl dX7_unaskedUpTo_18 (gR rfl fun x18 => ?_)
      refine v_iload (i := 4) hc 4 rfl dX7_unaskedUpTo_21 ?_
      refine v_iconst (x := (4 : Int32)) hc dX7_unaskedUpTo_23 zi_4 ?_
      refine v_cI hc (m_V' (As := [.int v4, .int (4 : Int32)]) (b := x18) (rest := []) 2 hc hr (fun l D tys base => ct5_at l D tys base h x18 v4 (4 : Int32)) (fun x hx => ob5_at hx) rfl s5_at w_554 rfl ⟨Nat.le_of_ble_eq_true rfl, Nat.le_of_ble_eq_true rfl⟩ ⟨Nat.le_of_ble_eq_true rfl, Nat.le_of_ble_eq_true rfl⟩ (Nat.le_of_ble_eq_true rfl) dX7_unaskedUpTo_24) fun x24 => ?_
      refine v_istore (i := 5) (L' := [(5, .int x24), (0, .ref v0), (1, .int v1), (2, .int v2), (3, .int v3), (4, .int v4)]) hc dX7_unaskedUpTo_27 (hn 5 (Nat.le_of_ble_eq_true rfl)) rfl ?_
      refine v_iload (i := 5) hc 0 rfl dX7_unaskedUpTo_29 ?_
      refine v_iconst (x := (-1 : Int32)) hc dX7_unaskedUpTo_31 zi_m1 ?_
      refine v_icmp_eq hc 45 dX7_unaskedUpTo_32 rfl ?_ ?_
      · refine v_iconst (x := (0 : Int32)) hc dX7_unaskedUpTo_45 zi_0 ?_
        refine v_sub (L' := [(0, .ref v0), (1, .int v1), (2, .int v2), (3, .int v3), (4, .int v4)]) [1, 2, 3, 4, 5] rfl ?_
        exact vl7_unaskedUpTo_46 hc hr hq hL (fun v3 v4 => f7_unaskedUpTo_5 h v0 v1 v2 n v3 v4) h v0 v1 v2 ih v3 v4 false
      · refine v_iload (i := 5) hc 0 rfl dX7_unaskedUpTo_35 ?_
        refine v_iload_n (i := 2) hc 3 rfl dX7_unaskedUpTo_37 rfl ?_
        refine v_icmp_gt hc 45 dX7_unaskedUpTo_38 rfl ?_ ?_
        · refine v_iconst (x := (0 : Int32)) hc dX7_unaskedUpTo_45 zi_0 ?_
          refine v_sub (L' := [(0, .ref v0), (1, .int v1), (2, .int v2), (3, .int v3), (4, .int v4)]) [1, 2, 3, 4, 5] rfl ?_
          exact vl7_unaskedUpTo_46 hc hr hq hL (fun v3 v4 => f7_unaskedUpTo_5 h v0 v1 v2 n v3 v4) h v0 v1 v2 ih v3 v4 false
        · refine v_iconst (x := (1 : Int32)) hc dX7_unaskedUpTo_41 zi_1 ?_
          refine v_goto hc 46 dX7_unaskedUpTo_42 rfl ?_
          refine v_sub (L' := [(0, .ref v0), (1, .int v1), (2, .int v2), (3, .int v3), (4, .int v4)]) [1, 2, 3, 4, 5] rfl ?_
          exact vl7_unaskedUpTo_46 hc hr hq hL (fun v3 v4 => f7_unaskedUpTo_5 h v0 v1 v2 n v3 v4) h v0 v1 v2 ih v3 v4 true
def f7_unaskedUpTo (h : AH) (this : Nat) (p0 : Int32) (p1 : Int32) : Option (Int32) := (hObj 7 h this).bind fun _ => f7_unaskedUpTo_5 h this p0 p1 FU (0 : Int32) (0 : Int32)
theorem ob7_unaskedUpTo {h : AH} {this : Nat} {p0 : Int32} {p1 : Int32} {x : Int32} (e : f7_unaskedUpTo h this p0 p1 = some x) : ∃ fs, hObj 7 h this = some fs := by
  unfold f7_unaskedUpTo at e
  obtain ⟨fs, h1, -⟩ := bd e
  exact ⟨fs, h1⟩
set_option maxRecDepth 100000 in
theorem ct7_unaskedUpTo (l : Launch) (D : va_G) (tys : Tys) (base : Nat) (h : AH) (this : Nat) (p0 : Int32) (p1 : Int32) : Ct l D tys base yX7_unaskedUpTo cX7_unaskedUpTo 7 (some .int) 5 134 0 0 [.ref this, .int p0, .int p1] h (rI h) (f7_unaskedUpTo h this p0 p1) := by
  refine Ct.intro (own := RX7) (L := [(0, .ref this), (1, .int p0), (2, .int p1)]) rfl (by decide) rfl (Nat.le_of_ble_eq_true rfl) fun κ hc hr hq hi hL => ?_
  have hn : ∀ i, i < 7 → i < κ.2.2.2.2.1 := fun i q => hL ▸ q
  unfold f7_unaskedUpTo
  refine v_obj ?_
  refine v_iconst (x := (0 : Int32)) hc dX7_unaskedUpTo_0 zi_0 ?_
  refine v_istore_n (i := 3) (L' := [(3, .int (0 : Int32)), (0, .ref this), (1, .int p0), (2, .int p1)]) hc dX7_unaskedUpTo_1 rfl (hn 3 (Nat.le_of_ble_eq_true rfl)) rfl ?_
  refine v_iconst (x := (0 : Int32)) hc dX7_unaskedUpTo_2 zi_0 ?_
  refine v_istore (i := 4) (L' := [(4, .int (0 : Int32)), (3, .int (0 : Int32)), (0, .ref this), (1, .int p0), (2, .int p1)]) hc dX7_unaskedUpTo_3 (hn 4 (Nat.le_of_ble_eq_true rfl)) rfl ?_
  refine v_sub (L' := [(0, .ref this), (1, .int p0), (2, .int p1), (3, .int (0 : Int32)), (4, .int (0 : Int32))]) [2, 3, 4, 1, 0] rfl ?_
  exact vl7_unaskedUpTo_5 hc hr hq hL h this p0 p1 FU (0 : Int32) (0 : Int32)
theorem s7_unaskedUpTo : YV yX7_unaskedUpTo RX7 cX7_unaskedUpTo 7 (some .int) 2 := ⟨w_1086, w_1084, w_1085, w_109, rfl, by decide +kernel, by decide +kernel, by decide +kernel⟩
def f7_gainUpTo_16 (h : AH) (v0 : Nat) (v1 : Int32) (v2 : Int32) (v3 : Int32) : Nat → Int32 → Int32 → Option (Int32)
  | 0, _, _ => none
  | n + 1, v4, v5 => (fR 7 4 h v0).bind fun x19 => (f5_size h x19).bind fun x22 => (if x22 ≤ v5 then (fR 7 8 h v0).bind fun x68 => (f5_at h x68 v1 (2 : Int32)).bind fun x73 => some (v4 * x73) else (f7_isVolume h v0 v5).bind fun x31 => (if x31 = true then (fR 7 4 h v0).bind fun x38 => (f5_at h x38 v5 (8 : Int32)).bind fun x45 => (f8_isFrom h x45 v3 v2).bind fun x50 => (if x50 = true then (some (v4 + (1 : Int32))).bind fun x56 => (some (v5 + (1 : Int32))).bind fun x59 => f7_gainUpTo_16 h v0 v1 v2 v3 n x56 x59 else (some (v5 + (1 : Int32))).bind fun x59 => f7_gainUpTo_16 h v0 v1 v2 v3 n v4 x59) else (some (v5 + (1 : Int32))).bind fun x59 => f7_gainUpTo_16 h v0 v1 v2 v3 n v4 x59))
set_option maxRecDepth 100000 in
theorem vl7_gainUpTo_16 {κ : Kx} (hc : CX κ RX7 cX7_gainUpTo) (hr : RX κ ({ frames := 4, cells := 0, slots := 0, locals := 87 } : Room)) (hq : QX κ (some .int) 0 0) (hL : 6 = κ.2.2.2.2.1)  (h : AH) (v0 : Nat) (v1 : Int32) (v2 : Int32) (v3 : Int32) : ∀ n (v4 : Int32) (v5 : Int32), V κ (rI h) 0 0 16 [(0, .ref v0), (1, .int v1), (2, .int v2), (3, .int v3), (4, .int v4), (5, .int v5)] [] h (f7_gainUpTo_16 h v0 v1 v2 v3 n v4 v5) := by
  have hn : ∀ i, i < 6 → i < κ.2.2.2.2.1 := fun i q => hL ▸ q
  intro n
  induction n with
  | zero => intros; exact v_none
  | succ n ih =>
    intro v4 v5
    rw [f7_gainUpTo_16.eq_2]
    refine v_iload (i := 5) hc 5 rfl dX7_gainUpTo_16 ?_
    refine v_aload_n (i := 0) hc 0 rfl dX7_gainUpTo_18 rfl ?_
    refine v_getV hc kX7 4 (by decide) w_189 rfl dX7_gainUpTo_19 (gR rfl fun x19 => ?_)
    refine v_cI hc (m_V' (As := []) (b := x19) (rest := [.int v5]) 0 hc hr (fun l D tys base => ct5_size l D tys base h x19) (fun x hx => ob5_size hx) rfl s5_size w_556 rfl ⟨Nat.le_of_ble_eq_true rfl, Nat.le_of_ble_eq_true rfl⟩ ⟨Nat.le_of_ble_eq_true rfl, Nat.le_of_ble_eq_true rfl⟩ (Nat.le_of_ble_eq_true rfl) dX7_gainUpTo_22) fun x22 => ?_
    refine v_icmp_ge hc 65 dX7_gainUpTo_25 rfl ?_ ?_
    · refine v_iload (i := 4) hc 4 rfl dX7_gainUpTo_65 ?_
      refine v_aload_n (i := 0) hc 0 rfl dX7_gainUpTo_67 rfl ?_
      refine v_getV hc kX7 8 (by decide) w_199 rfl dX7_gainUpTo_68 (gR rfl fun x68 => ?_)
      refine v_iload_n (i := 1) hc 1 rfl dX7_gainUpTo_71 rfl ?_
      refine v_iconst (x := (2 : Int32)) hc dX7_gainUpTo_72 zi_2 ?_
      refine v_cI hc (m_V' (As := [.int v1, .int (2 : Int32)]) (b := x68) (rest := [.int v4]) 2 hc hr (fun l D tys base => ct5_at l D tys base h x68 v1 (2 : Int32)) (fun x hx => ob5_at hx) rfl s5_at w_554 rfl ⟨Nat.le_of_ble_eq_true rfl, Nat.le_of_ble_eq_true rfl⟩ ⟨Nat.le_of_ble_eq_true rfl, Nat.le_of_ble_eq_true rfl⟩ (Nat.le_of_ble_eq_true rfl) dX7_gainUpTo_73) fun x73 => ?_
      refine v_imul hc dX7_gainUpTo_76 ?_
      exact v_iret hc hq rfl rfl (Nat.le_of_ble_eq_true rfl) (Nat.le_of_ble_eq_true rfl) rfl dX7_gainUpTo_77
    · refine v_aload_n (i := 0) hc 0 rfl dX7_gainUpTo_28 rfl ?_
      refine v_iload (i := 5) hc 5 rfl dX7_gainUpTo_29 ?_
      refine v_cB hc (m_V' (As := [.int v5]) (b := v0) (rest := []) 1 hc hr (fun l D tys base => ct7_isVolume l D tys base h v0 v5) (fun x hx => ob7_isVolume hx) rfl s7_isVolume w_826 rfl ⟨Nat.le_of_ble_eq_true rfl, Nat.le_of_ble_eq_true rfl⟩ ⟨Nat.le_of_ble_eq_true rfl, Nat.le_of_ble_eq_true rfl⟩ (Nat.le_of_ble_eq_true rfl) dX7_gainUpTo_31) fun x31 => ?_
      refine v_ifb_eq hc 59 dX7_gainUpTo_34 rfl ?_ ?_
      · refine v_iincN (i := 5) (y := (1 : Int32)) (L' := fun z => [(5, .int z), (0, .ref v0), (1, .int v1), (2, .int v2), (3, .int v3), (4, .int v4)]) hc 5 rfl dX7_gainUpTo_59 zi_1 (hn 5 (Nat.le_of_ble_eq_true rfl)) (fun _ => rfl) fun x59 => ?_
        refine v_goto hc 16 dX7_gainUpTo_62 rfl ?_
        refine v_sub (L' := [(0, .ref v0), (1, .int v1), (2, .int v2), (3, .int v3), (4, .int v4), (5, .int x59)]) [1, 2, 3, 4, 5, 0] rfl ?_
        exact ih v4 x59
      · refine v_aload_n (i := 0) hc 0 rfl dX7_gainUpTo_37 rfl ?_
        refine v_getV hc kX7 4 (by decide) w_189 rfl dX7_gainUpTo_38 (gR rfl fun x38 => ?_)
        refine v_iload (i := 5) hc 5 rfl dX7_gainUpTo_41 ?_
        refine v_bipush (x := (8 : Int32)) hc dX7_gainUpTo_43 zb_8 ?_
        refine v_cI hc (m_V' (As := [.int v5, .int (8 : Int32)]) (b := x38) (rest := []) 2 hc hr (fun l D tys base => ct5_at l D tys base h x38 v5 (8 : Int32)) (fun x hx => ob5_at hx) rfl s5_at w_554 rfl ⟨Nat.le_of_ble_eq_true rfl, Nat.le_of_ble_eq_true rfl⟩ ⟨Nat.le_of_ble_eq_true rfl, Nat.le_of_ble_eq_true rfl⟩ (Nat.le_of_ble_eq_true rfl) dX7_gainUpTo_45) fun x45 => ?_
        refine v_iload_n (i := 3) hc 3 rfl dX7_gainUpTo_48 rfl ?_
        refine v_iload_n (i := 2) hc 2 rfl dX7_gainUpTo_49 rfl ?_
        refine v_cB hc (m_SN' (As := [.int x45, .int v3, .int v2]) (rest := []) 3 hc hr (fun l D tys base => ct8_isFrom l D tys base h x45 v3 v2) s8_isFrom w_1091 rfl ⟨Nat.le_of_ble_eq_true rfl, Nat.le_of_ble_eq_true rfl⟩ ⟨Nat.le_of_ble_eq_true rfl, Nat.le_of_ble_eq_true rfl⟩ (Nat.le_of_ble_eq_true rfl) dX7_gainUpTo_50) fun x50 => ?_
        refine v_ifb_eq hc 59 dX7_gainUpTo_53 rfl ?_ ?_
        · refine v_iincN (i := 5) (y := (1 : Int32)) (L' := fun z => [(5, .int z), (0, .ref v0), (1, .int v1), (2, .int v2), (3, .int v3), (4, .int v4)]) hc 5 rfl dX7_gainUpTo_59 zi_1 (hn 5 (Nat.le_of_ble_eq_true rfl)) (fun _ => rfl) fun x59 => ?_
          refine v_goto hc 16 dX7_gainUpTo_62 rfl ?_
          refine v_sub (L' := [(0, .ref v0), (1, .int v1), (2, .int v2), (3, .int v3), (4, .int v4), (5, .int x59)]) [1, 2, 3, 4, 5, 0] rfl ?_
          exact ih v4 x59
        · refine v_iincN (i := 4) (y := (1 : Int32)) (L' := fun z => [(4, .int z), (0, .ref v0), (1, .int v1), (2, .int v2), (3, .int v3), (5, .int v5)]) hc 4 rfl dX7_gainUpTo_56 zi_1 (hn 4 (Nat.le_of_ble_eq_true rfl)) (fun _ => rfl) fun x56 => ?_
          refine v_iincN (i := 5) (y := (1 : Int32)) (L' := fun z => [(5, .int z), (4, .int x56), (0, .ref v0), (1, .int v1), (2, .int v2), (3, .int v3)]) hc 5 rfl dX7_gainUpTo_59 zi_1 (hn 5 (Nat.le_of_ble_eq_true rfl)) (fun _ => rfl) fun x59 => ?_
          refine v_goto hc 16 dX7_gainUpTo_62 rfl ?_
          refine v_sub (L' := [(0, .ref v0), (1, .int v1), (2, .int v2), (3, .int v3), (4, .int x56), (5, .int x59)]) [2, 3, 4, 5, 1, 0] rfl ?_
          exact ih x56 x59
def f7_gainUpTo (h : AH) (this : Nat) (p0 : Int32) (p1 : Int32) : Option (Int32) := (hObj 7 h this).bind fun _ => (fR 7 8 h this).bind fun x1 => (f5_at h x1 p0 (3 : Int32)).bind fun x6 => f7_gainUpTo_16 h this p0 p1 x6 FU (0 : Int32) (0 : Int32)
theorem ob7_gainUpTo {h : AH} {this : Nat} {p0 : Int32} {p1 : Int32} {x : Int32} (e : f7_gainUpTo h this p0 p1 = some x) : ∃ fs, hObj 7 h this = some fs := by
  unfold f7_gainUpTo at e
  obtain ⟨fs, h1, -⟩ := bd e
  exact ⟨fs, h1⟩
set_option maxRecDepth 100000 in
theorem ct7_gainUpTo (l : Launch) (D : va_G) (tys : Tys) (base : Nat) (h : AH) (this : Nat) (p0 : Int32) (p1 : Int32) : Ct l D tys base yX7_gainUpTo cX7_gainUpTo 6 (some .int) 4 87 0 0 [.ref this, .int p0, .int p1] h (rI h) (f7_gainUpTo h this p0 p1) := by
  refine Ct.intro (own := RX7) (L := [(0, .ref this), (1, .int p0), (2, .int p1)]) rfl (by decide) rfl (Nat.le_of_ble_eq_true rfl) fun κ hc hr hq hi hL => ?_
  have hn : ∀ i, i < 6 → i < κ.2.2.2.2.1 := fun i q => hL ▸ q
  unfold f7_gainUpTo
  refine v_obj ?_
  refine v_aload_n (i := 0) hc 0 rfl dX7_gainUpTo_0 rfl ?_
  refine v_getV hc kX7 8 (by decide) w_199 rfl dX7_gainUpTo_1 (gR rfl fun x1 => ?_)
  refine v_iload_n (i := 1) hc 1 rfl dX7_gainUpTo_4 rfl ?_
  refine v_iconst (x := (3 : Int32)) hc dX7_gainUpTo_5 zi_3 ?_
  refine v_cI hc (m_V' (As := [.int p0, .int (3 : Int32)]) (b := x1) (rest := []) 2 hc hr (fun l D tys base => ct5_at l D tys base h x1 p0 (3 : Int32)) (fun x hx => ob5_at hx) rfl s5_at w_554 rfl ⟨Nat.le_of_ble_eq_true rfl, Nat.le_of_ble_eq_true rfl⟩ ⟨Nat.le_of_ble_eq_true rfl, Nat.le_of_ble_eq_true rfl⟩ (Nat.le_of_ble_eq_true rfl) dX7_gainUpTo_6) fun x6 => ?_
  refine v_istore_n (i := 3) (L' := [(3, .int x6), (0, .ref this), (1, .int p0), (2, .int p1)]) hc dX7_gainUpTo_9 rfl (hn 3 (Nat.le_of_ble_eq_true rfl)) rfl ?_
  refine v_iconst (x := (0 : Int32)) hc dX7_gainUpTo_10 zi_0 ?_
  refine v_istore (i := 4) (L' := [(4, .int (0 : Int32)), (3, .int x6), (0, .ref this), (1, .int p0), (2, .int p1)]) hc dX7_gainUpTo_11 (hn 4 (Nat.le_of_ble_eq_true rfl)) rfl ?_
  refine v_iconst (x := (0 : Int32)) hc dX7_gainUpTo_13 zi_0 ?_
  refine v_istore (i := 5) (L' := [(5, .int (0 : Int32)), (4, .int (0 : Int32)), (3, .int x6), (0, .ref this), (1, .int p0), (2, .int p1)]) hc dX7_gainUpTo_14 (hn 5 (Nat.le_of_ble_eq_true rfl)) rfl ?_
  refine v_sub (L' := [(0, .ref this), (1, .int p0), (2, .int p1), (3, .int x6), (4, .int (0 : Int32)), (5, .int (0 : Int32))]) [3, 4, 5, 2, 1, 0] rfl ?_
  exact vl7_gainUpTo_16 hc hr hq hL h this p0 p1 x6 FU (0 : Int32) (0 : Int32)
theorem s7_gainUpTo : YV yX7_gainUpTo RX7 cX7_gainUpTo 6 (some .int) 2 := ⟨w_1099, w_1097, w_1098, w_109, rfl, by decide +kernel, by decide +kernel, by decide +kernel⟩
def f7_copyFrom (h : AH) (this : Nat) (p0 : Nat) : Option (AH) := (hObj 7 h this).bind fun _ => (fI 7 0 h p0).bind fun x2 => (fS 7 0 h this (.int x2)).bind fun h5 => (fR 7 1 h5 this).bind fun x9 => (fR 7 1 h5 p0).bind fun x13 => (f5_copyFrom h5 x9 x13).bind fun x16 => (fR 7 2 x16 this).bind fun x20 => (fR 7 2 x16 p0).bind fun x24 => (f2_copyFrom x16 x20 x24).bind fun x27 => (fR 7 3 x27 this).bind fun x31 => (fR 7 3 x27 p0).bind fun x35 => (f2_copyFrom x27 x31 x35).bind fun x38 => (fR 7 4 x38 this).bind fun x42 => (fR 7 4 x38 p0).bind fun x46 => (f5_copyFrom x38 x42 x46).bind fun x49 => (fR 7 5 x49 this).bind fun x53 => (fR 7 5 x49 p0).bind fun x57 => (f2_copyFrom x49 x53 x57).bind fun x60 => (fR 7 6 x60 this).bind fun x64 => (fR 7 6 x60 p0).bind fun x68 => (f5_copyFrom x60 x64 x68).bind fun x71 => (fR 7 7 x71 this).bind fun x75 => (fR 7 7 x71 p0).bind fun x79 => (f5_copyFrom x71 x75 x79).bind fun x82 => (fR 7 8 x82 this).bind fun x86 => (fR 7 8 x82 p0).bind fun x90 => (f5_copyFrom x82 x86 x90).bind fun x93 => some x93
theorem ob7_copyFrom {h : AH} {this : Nat} {p0 : Nat} {x : AH} (e : f7_copyFrom h this p0 = some x) : ∃ fs, hObj 7 h this = some fs := by
  unfold f7_copyFrom at e
  obtain ⟨fs, h1, -⟩ := bd e
  exact ⟨fs, h1⟩
set_option maxRecDepth 100000 in
theorem ct7_copyFrom (l : Launch) (D : va_G) (tys : Tys) (base : Nat) (h : AH) (this : Nat) (p0 : Nat) : Ct l D tys base yX7_copyFrom cX7_copyFrom 2 none 2 62 0 0 [.ref this, .ref p0] h (wV) (f7_copyFrom h this p0) := by
  refine Ct.intro (own := RX7) (L := [(0, .ref this), (1, .ref p0)]) rfl (by decide) rfl (Nat.le_of_ble_eq_true rfl) fun κ hc hr hq hi hL => ?_
  have hn : ∀ i, i < 2 → i < κ.2.2.2.2.1 := fun i q => hL ▸ q
  unfold f7_copyFrom
  refine v_obj ?_
  refine v_aload_n (i := 0) hc 0 rfl dX7_copyFrom_0 rfl ?_
  refine v_aload_n (i := 1) hc 1 rfl dX7_copyFrom_1 rfl ?_
  refine v_getV hc kX7 0 (by decide) w_179 rfl dX7_copyFrom_2 (gI rfl fun x2 => ?_)
  refine v_put hc kX7 0 (by decide) w_179 rfl rfl dX7_copyFrom_5 ⟨rfl, rfl⟩ fun h5 => ?_
  refine v_aload_n (i := 0) hc 0 rfl dX7_copyFrom_8 rfl ?_
  refine v_getV hc kX7 1 (by decide) w_181 rfl dX7_copyFrom_9 (gR rfl fun x9 => ?_)
  refine v_aload_n (i := 1) hc 1 rfl dX7_copyFrom_12 rfl ?_
  refine v_getV hc kX7 1 (by decide) w_181 rfl dX7_copyFrom_13 (gR rfl fun x13 => ?_)
  refine v_cV hc (m_V' (As := [.ref x13]) (b := x9) (rest := []) 1 hc hr (fun l D tys base => ct5_copyFrom l D tys base h5 x9 x13) (fun x hx => ob5_copyFrom hx) rfl s5_copyFrom w_1112 rfl ⟨Nat.le_of_ble_eq_true rfl, Nat.le_of_ble_eq_true rfl⟩ ⟨Nat.le_of_ble_eq_true rfl, Nat.le_of_ble_eq_true rfl⟩ (Nat.le_of_ble_eq_true rfl) dX7_copyFrom_16) fun x16 => ?_
  refine v_aload_n (i := 0) hc 0 rfl dX7_copyFrom_19 rfl ?_
  refine v_getV hc kX7 2 (by decide) w_183 rfl dX7_copyFrom_20 (gR rfl fun x20 => ?_)
  refine v_aload_n (i := 1) hc 1 rfl dX7_copyFrom_23 rfl ?_
  refine v_getV hc kX7 2 (by decide) w_183 rfl dX7_copyFrom_24 (gR rfl fun x24 => ?_)
  refine v_cV hc (m_V' (As := [.ref x24]) (b := x20) (rest := []) 1 hc hr (fun l D tys base => ct2_copyFrom l D tys base x16 x20 x24) (fun x hx => ob2_copyFrom hx) rfl s2_copyFrom w_1117 rfl ⟨Nat.le_of_ble_eq_true rfl, Nat.le_of_ble_eq_true rfl⟩ ⟨Nat.le_of_ble_eq_true rfl, Nat.le_of_ble_eq_true rfl⟩ (Nat.le_of_ble_eq_true rfl) dX7_copyFrom_27) fun x27 => ?_
  refine v_aload_n (i := 0) hc 0 rfl dX7_copyFrom_30 rfl ?_
  refine v_getV hc kX7 3 (by decide) w_186 rfl dX7_copyFrom_31 (gR rfl fun x31 => ?_)
  refine v_aload_n (i := 1) hc 1 rfl dX7_copyFrom_34 rfl ?_
  refine v_getV hc kX7 3 (by decide) w_186 rfl dX7_copyFrom_35 (gR rfl fun x35 => ?_)
  refine v_cV hc (m_V' (As := [.ref x35]) (b := x31) (rest := []) 1 hc hr (fun l D tys base => ct2_copyFrom l D tys base x27 x31 x35) (fun x hx => ob2_copyFrom hx) rfl s2_copyFrom w_1117 rfl ⟨Nat.le_of_ble_eq_true rfl, Nat.le_of_ble_eq_true rfl⟩ ⟨Nat.le_of_ble_eq_true rfl, Nat.le_of_ble_eq_true rfl⟩ (Nat.le_of_ble_eq_true rfl) dX7_copyFrom_38) fun x38 => ?_
  refine v_aload_n (i := 0) hc 0 rfl dX7_copyFrom_41 rfl ?_
  refine v_getV hc kX7 4 (by decide) w_189 rfl dX7_copyFrom_42 (gR rfl fun x42 => ?_)
  refine v_aload_n (i := 1) hc 1 rfl dX7_copyFrom_45 rfl ?_
  refine v_getV hc kX7 4 (by decide) w_189 rfl dX7_copyFrom_46 (gR rfl fun x46 => ?_)
  refine v_cV hc (m_V' (As := [.ref x46]) (b := x42) (rest := []) 1 hc hr (fun l D tys base => ct5_copyFrom l D tys base x38 x42 x46) (fun x hx => ob5_copyFrom hx) rfl s5_copyFrom w_1112 rfl ⟨Nat.le_of_ble_eq_true rfl, Nat.le_of_ble_eq_true rfl⟩ ⟨Nat.le_of_ble_eq_true rfl, Nat.le_of_ble_eq_true rfl⟩ (Nat.le_of_ble_eq_true rfl) dX7_copyFrom_49) fun x49 => ?_
  refine v_aload_n (i := 0) hc 0 rfl dX7_copyFrom_52 rfl ?_
  refine v_getV hc kX7 5 (by decide) w_192 rfl dX7_copyFrom_53 (gR rfl fun x53 => ?_)
  refine v_aload_n (i := 1) hc 1 rfl dX7_copyFrom_56 rfl ?_
  refine v_getV hc kX7 5 (by decide) w_192 rfl dX7_copyFrom_57 (gR rfl fun x57 => ?_)
  refine v_cV hc (m_V' (As := [.ref x57]) (b := x53) (rest := []) 1 hc hr (fun l D tys base => ct2_copyFrom l D tys base x49 x53 x57) (fun x hx => ob2_copyFrom hx) rfl s2_copyFrom w_1117 rfl ⟨Nat.le_of_ble_eq_true rfl, Nat.le_of_ble_eq_true rfl⟩ ⟨Nat.le_of_ble_eq_true rfl, Nat.le_of_ble_eq_true rfl⟩ (Nat.le_of_ble_eq_true rfl) dX7_copyFrom_60) fun x60 => ?_
  refine v_aload_n (i := 0) hc 0 rfl dX7_copyFrom_63 rfl ?_
  refine v_getV hc kX7 6 (by decide) w_195 rfl dX7_copyFrom_64 (gR rfl fun x64 => ?_)
  refine v_aload_n (i := 1) hc 1 rfl dX7_copyFrom_67 rfl ?_
  refine v_getV hc kX7 6 (by decide) w_195 rfl dX7_copyFrom_68 (gR rfl fun x68 => ?_)
  refine v_cV hc (m_V' (As := [.ref x68]) (b := x64) (rest := []) 1 hc hr (fun l D tys base => ct5_copyFrom l D tys base x60 x64 x68) (fun x hx => ob5_copyFrom hx) rfl s5_copyFrom w_1112 rfl ⟨Nat.le_of_ble_eq_true rfl, Nat.le_of_ble_eq_true rfl⟩ ⟨Nat.le_of_ble_eq_true rfl, Nat.le_of_ble_eq_true rfl⟩ (Nat.le_of_ble_eq_true rfl) dX7_copyFrom_71) fun x71 => ?_
  refine v_aload_n (i := 0) hc 0 rfl dX7_copyFrom_74 rfl ?_
  refine v_getV hc kX7 7 (by decide) w_197 rfl dX7_copyFrom_75 (gR rfl fun x75 => ?_)
  refine v_aload_n (i := 1) hc 1 rfl dX7_copyFrom_78 rfl ?_
  refine v_getV hc kX7 7 (by decide) w_197 rfl dX7_copyFrom_79 (gR rfl fun x79 => ?_)
  refine v_cV hc (m_V' (As := [.ref x79]) (b := x75) (rest := []) 1 hc hr (fun l D tys base => ct5_copyFrom l D tys base x71 x75 x79) (fun x hx => ob5_copyFrom hx) rfl s5_copyFrom w_1112 rfl ⟨Nat.le_of_ble_eq_true rfl, Nat.le_of_ble_eq_true rfl⟩ ⟨Nat.le_of_ble_eq_true rfl, Nat.le_of_ble_eq_true rfl⟩ (Nat.le_of_ble_eq_true rfl) dX7_copyFrom_82) fun x82 => ?_
  refine v_aload_n (i := 0) hc 0 rfl dX7_copyFrom_85 rfl ?_
  refine v_getV hc kX7 8 (by decide) w_199 rfl dX7_copyFrom_86 (gR rfl fun x86 => ?_)
  refine v_aload_n (i := 1) hc 1 rfl dX7_copyFrom_89 rfl ?_
  refine v_getV hc kX7 8 (by decide) w_199 rfl dX7_copyFrom_90 (gR rfl fun x90 => ?_)
  refine v_cV hc (m_V' (As := [.ref x90]) (b := x86) (rest := []) 1 hc hr (fun l D tys base => ct5_copyFrom l D tys base x82 x86 x90) (fun x hx => ob5_copyFrom hx) rfl s5_copyFrom w_1112 rfl ⟨Nat.le_of_ble_eq_true rfl, Nat.le_of_ble_eq_true rfl⟩ ⟨Nat.le_of_ble_eq_true rfl, Nat.le_of_ble_eq_true rfl⟩ (Nat.le_of_ble_eq_true rfl) dX7_copyFrom_93) fun x93 => ?_
  exact v_vret hc hq (Nat.le_of_ble_eq_true rfl) (Nat.le_of_ble_eq_true rfl) rfl dX7_copyFrom_96
theorem s7_copyFrom : YV yX7_copyFrom RX7 cX7_copyFrom 2 none 1 := ⟨w_1111, w_1109, w_1110, w_109, rfl, by decide +kernel, by decide +kernel, by decide +kernel⟩
