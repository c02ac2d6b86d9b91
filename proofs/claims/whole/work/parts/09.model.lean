def f9_init (h : AH) (this : Nat) : Option (AH) := (hObj 9 h this).bind fun _ => (nB 0 5070 h (5070 : Int32)).bind fun y8 => (fS 9 0 y8.2 this (.ref y8.1)).bind fun h10 => (nB 2 400 h10 (400 : Int32)).bind fun y17 => (fS 9 1 y17.2 this (.ref y17.1)).bind fun h19 => (nB 0 5600 h19 (5600 : Int32)).bind fun y26 => (fS 9 3 y26.2 this (.ref y26.1)).bind fun h28 => (nB 0 14 h28 (14 : Int32)).bind fun y34 => (fS 9 4 y34.2 this (.ref y34.1)).bind fun h36 => (nB 0 672 h36 (672 : Int32)).bind fun y43 => (fS 9 5 y43.2 this (.ref y43.1)).bind fun h45 => (nB 0 14 h45 (14 : Int32)).bind fun y51 => (fS 9 6 y51.2 this (.ref y51.1)).bind fun h53 => (nB 0 14 h53 (14 : Int32)).bind fun y59 => (fS 9 7 y59.2 this (.ref y59.1)).bind fun h61 => (nB 0 14 h61 (14 : Int32)).bind fun y67 => (fS 9 8 y67.2 this (.ref y67.1)).bind fun h69 => (nB 0 14 h69 (14 : Int32)).bind fun y75 => (fS 9 9 y75.2 this (.ref y75.1)).bind fun h77 => (nB 0 14 h77 (14 : Int32)).bind fun y83 => (fS 9 10 y83.2 this (.ref y83.1)).bind fun h85 => (nB 0 168 h85 (168 : Int32)).bind fun y92 => (fS 9 11 y92.2 this (.ref y92.1)).bind fun h94 => (nB 0 14 h94 (14 : Int32)).bind fun y100 => (fS 9 12 y100.2 this (.ref y100.1)).bind fun h102 => (nB 0 14 h102 (14 : Int32)).bind fun y108 => (fS 9 13 y108.2 this (.ref y108.1)).bind fun h110 => (nB 0 400 h110 (400 : Int32)).bind fun y117 => (fS 9 23 y117.2 this (.ref y117.1)).bind fun h119 => (nB 1 64 h119 (64 : Int32)).bind fun y125 => (fS 9 25 y125.2 this (.ref y125.1)).bind fun h127 => (nB 1 10 h127 (10 : Int32)).bind fun y133 => (fS 9 27 y133.2 this (.ref y133.1)).bind fun h135 => (nB 0 90 h135 (90 : Int32)).bind fun y141 => (fS 9 28 y141.2 this (.ref y141.1)).bind fun h143 => (nB 0 90 h143 (90 : Int32)).bind fun y149 => (fS 9 29 y149.2 this (.ref y149.1)).bind fun h151 => (nB 0 6 h151 (6 : Int32)).bind fun y157 => (fS 9 31 y157.2 this (.ref y157.1)).bind fun h159 => (nB 0 6 h159 (6 : Int32)).bind fun y165 => (fS 9 32 y165.2 this (.ref y165.1)).bind fun h167 => (nB 0 8 h167 (8 : Int32)).bind fun y173 => (fS 9 33 y173.2 this (.ref y173.1)).bind fun h175 => (nB 0 20280 h175 (20280 : Int32)).bind fun y182 => (fS 9 34 y182.2 this (.ref y182.1)).bind fun h184 => (nB 3 4 h184 (4 : Int32)).bind fun y189 => (fS 9 35 y189.2 this (.ref y189.1)).bind fun h191 => some h191
theorem ob9_init {h : AH} {this : Nat} {x : AH} (e : f9_init h this = some x) : ∃ fs, hObj 9 h this = some fs := by
  unfold f9_init at e
  obtain ⟨fs, h1, -⟩ := bd e
  exact ⟨fs, h1⟩
set_option maxRecDepth 100000 in
theorem ct9_init (l : Launch) (D : va_G) (tys : Tys) (base : Nat) (h : AH) (this : Nat) : Ct l D tys base yX9_init cX9_init 1 none 1 12 23 32980 [.ref this] h (wV) (f9_init h this) := by
  refine Ct.intro (own := RX9) (L := [(0, .ref this)]) rfl (by decide) rfl (Nat.le_of_ble_eq_true rfl) fun κ hc hr hq hi hL => ?_
  have hin : IN κ := hi rfl
  have hn : ∀ i, i < 1 → i < κ.2.2.2.2.1 := fun i q => hL ▸ q
  unfold f9_init
  refine v_obj ?_
  refine v_aload_n (i := 0) hc 0 rfl dX9_init_0 rfl ?_
  refine v_objI hc hr (Nat.le_of_ble_eq_true rfl) (Nat.le_of_ble_eq_true rfl) (Nat.le_of_ble_eq_true rfl) (Nat.le_of_ble_eq_true rfl) w_1130 w_131 w_132 dX9_init_1 ?_
  refine v_aload_n (i := 0) hc 0 rfl dX9_init_4 rfl ?_
  refine v_sipush (x := (5070 : Int32)) hc dX9_init_5 zs_5070 ?_
  refine v_newa (at' := .int) 0 5070 rfl (by decide) hc hr w_161 (Nat.le_of_ble_eq_true rfl) (Nat.le_of_ble_eq_true rfl) (Nat.le_of_ble_eq_true rfl) dX9_init_8 fun y8 => ?_
  refine v_putF hc hin kX9 0 (by decide) w_1131 rfl rfl rfl dX9_init_10 ⟨rfl, rfl⟩ fun h10 => ?_
  refine v_aload_n (i := 0) hc 0 rfl dX9_init_13 rfl ?_
  refine v_sipush (x := (400 : Int32)) hc dX9_init_14 zs_400 ?_
  refine v_newa (at' := .byte) 2 400 rfl (by decide) hc hr w_779 (Nat.le_of_ble_eq_true rfl) (Nat.le_of_ble_eq_true rfl) (Nat.le_of_ble_eq_true rfl) dX9_init_17 fun y17 => ?_
  refine v_putF hc hin kX9 1 (by decide) w_1132 rfl rfl rfl dX9_init_19 ⟨rfl, rfl⟩ fun h19 => ?_
  refine v_aload_n (i := 0) hc 0 rfl dX9_init_22 rfl ?_
  refine v_sipush (x := (5600 : Int32)) hc dX9_init_23 zs_5600 ?_
  refine v_newa (at' := .int) 0 5600 rfl (by decide) hc hr w_161 (Nat.le_of_ble_eq_true rfl) (Nat.le_of_ble_eq_true rfl) (Nat.le_of_ble_eq_true rfl) dX9_init_26 fun y26 => ?_
  refine v_putF hc hin kX9 3 (by decide) w_1134 rfl rfl rfl dX9_init_28 ⟨rfl, rfl⟩ fun h28 => ?_
  refine v_aload_n (i := 0) hc 0 rfl dX9_init_31 rfl ?_
  refine v_bipush (x := (14 : Int32)) hc dX9_init_32 zb_14 ?_
  refine v_newa (at' := .int) 0 14 rfl (by decide) hc hr w_161 (Nat.le_of_ble_eq_true rfl) (Nat.le_of_ble_eq_true rfl) (Nat.le_of_ble_eq_true rfl) dX9_init_34 fun y34 => ?_
  refine v_putF hc hin kX9 4 (by decide) w_1135 rfl rfl rfl dX9_init_36 ⟨rfl, rfl⟩ fun h36 => ?_
  refine v_aload_n (i := 0) hc 0 rfl dX9_init_39 rfl ?_
  refine v_sipush (x := (672 : Int32)) hc dX9_init_40 zs_672 ?_
  refine v_newa (at' := .int) 0 672 rfl (by decide) hc hr w_161 (Nat.le_of_ble_eq_true rfl) (Nat.le_of_ble_eq_true rfl) (Nat.le_of_ble_eq_true rfl) dX9_init_43 fun y43 => ?_
  refine v_putF hc hin kX9 5 (by decide) w_1136 rfl rfl rfl dX9_init_45 ⟨rfl, rfl⟩ fun h45 => ?_
  refine v_aload_n (i := 0) hc 0 rfl dX9_init_48 rfl ?_
  refine v_bipush (x := (14 : Int32)) hc dX9_init_49 zb_14 ?_
  refine v_newa (at' := .int) 0 14 rfl (by decide) hc hr w_161 (Nat.le_of_ble_eq_true rfl) (Nat.le_of_ble_eq_true rfl) (Nat.le_of_ble_eq_true rfl) dX9_init_51 fun y51 => ?_
  refine v_putF hc hin kX9 6 (by decide) w_1137 rfl rfl rfl dX9_init_53 ⟨rfl, rfl⟩ fun h53 => ?_
  refine v_aload_n (i := 0) hc 0 rfl dX9_init_56 rfl ?_
  refine v_bipush (x := (14 : Int32)) hc dX9_init_57 zb_14 ?_
  refine v_newa (at' := .int) 0 14 rfl (by decide) hc hr w_161 (Nat.le_of_ble_eq_true rfl) (Nat.le_of_ble_eq_true rfl) (Nat.le_of_ble_eq_true rfl) dX9_init_59 fun y59 => ?_
  refine v_putF hc hin kX9 7 (by decide) w_1138 rfl rfl rfl dX9_init_61 ⟨rfl, rfl⟩ fun h61 => ?_
  refine v_aload_n (i := 0) hc 0 rfl dX9_init_64 rfl ?_
  refine v_bipush (x := (14 : Int32)) hc dX9_init_65 zb_14 ?_
  refine v_newa (at' := .int) 0 14 rfl (by decide) hc hr w_161 (Nat.le_of_ble_eq_true rfl) (Nat.le_of_ble_eq_true rfl) (Nat.le_of_ble_eq_true rfl) dX9_init_67 fun y67 => ?_
  refine v_putF hc hin kX9 8 (by decide) w_1139 rfl rfl rfl dX9_init_69 ⟨rfl, rfl⟩ fun h69 => ?_
  refine v_aload_n (i := 0) hc 0 rfl dX9_init_72 rfl ?_
  refine v_bipush (x := (14 : Int32)) hc dX9_init_73 zb_14 ?_
  refine v_newa (at' := .int) 0 14 rfl (by decide) hc hr w_161 (Nat.le_of_ble_eq_true rfl) (Nat.le_of_ble_eq_true rfl) (Nat.le_of_ble_eq_true rfl) dX9_init_75 fun y75 => ?_
  refine v_putF hc hin kX9 9 (by decide) w_1140 rfl rfl rfl dX9_init_77 ⟨rfl, rfl⟩ fun h77 => ?_
  refine v_aload_n (i := 0) hc 0 rfl dX9_init_80 rfl ?_
  refine v_bipush (x := (14 : Int32)) hc dX9_init_81 zb_14 ?_
  refine v_newa (at' := .int) 0 14 rfl (by decide) hc hr w_161 (Nat.le_of_ble_eq_true rfl) (Nat.le_of_ble_eq_true rfl) (Nat.le_of_ble_eq_true rfl) dX9_init_83 fun y83 => ?_
  refine v_putF hc hin kX9 10 (by decide) w_1141 rfl rfl rfl dX9_init_85 ⟨rfl, rfl⟩ fun h85 => ?_
  refine v_aload_n (i := 0) hc 0 rfl dX9_init_88 rfl ?_
  refine v_sipush (x := (168 : Int32)) hc dX9_init_89 zs_168 ?_
  refine v_newa (at' := .int) 0 168 rfl (by decide) hc hr w_161 (Nat.le_of_ble_eq_true rfl) (Nat.le_of_ble_eq_true rfl) (Nat.le_of_ble_eq_true rfl) dX9_init_92 fun y92 => ?_
  refine v_putF hc hin kX9 11 (by decide) w_1142 rfl rfl rfl dX9_init_94 ⟨rfl, rfl⟩ fun h94 => ?_
  refine v_aload_n (i := 0) hc 0 rfl dX9_init_97 rfl ?_
  refine v_bipush (x := (14 : Int32)) hc dX9_init_98 zb_14 ?_
  refine v_newa (at' := .int) 0 14 rfl (by decide) hc hr w_161 (Nat.le_of_ble_eq_true rfl) (Nat.le_of_ble_eq_true rfl) (Nat.le_of_ble_eq_true rfl) dX9_init_100 fun y100 => ?_
  refine v_putF hc hin kX9 12 (by decide) w_1143 rfl rfl rfl dX9_init_102 ⟨rfl, rfl⟩ fun h102 => ?_
  refine v_aload_n (i := 0) hc 0 rfl dX9_init_105 rfl ?_
  refine v_bipush (x := (14 : Int32)) hc dX9_init_106 zb_14 ?_
  refine v_newa (at' := .int) 0 14 rfl (by decide) hc hr w_161 (Nat.le_of_ble_eq_true rfl) (Nat.le_of_ble_eq_true rfl) (Nat.le_of_ble_eq_true rfl) dX9_init_108 fun y108 => ?_
  refine v_putF hc hin kX9 13 (by decide) w_1144 rfl rfl rfl dX9_init_110 ⟨rfl, rfl⟩ fun h110 => ?_
  refine v_aload_n (i := 0) hc 0 rfl dX9_init_113 rfl ?_
  refine v_sipush (x := (400 : Int32)) hc dX9_init_114 zs_400 ?_
  refine v_newa (at' := .int) 0 400 rfl (by decide) hc hr w_161 (Nat.le_of_ble_eq_true rfl) (Nat.le_of_ble_eq_true rfl) (Nat.le_of_ble_eq_true rfl) dX9_init_117 fun y117 => ?_
  refine v_putF hc hin kX9 23 (by decide) w_1154 rfl rfl rfl dX9_init_119 ⟨rfl, rfl⟩ fun h119 => ?_
  refine v_aload_n (i := 0) hc 0 rfl dX9_init_122 rfl ?_
  refine v_bipush (x := (64 : Int32)) hc dX9_init_123 zb_64 ?_
  refine v_newa (at' := .long) 1 64 rfl (by decide) hc hr w_328 (Nat.le_of_ble_eq_true rfl) (Nat.le_of_ble_eq_true rfl) (Nat.le_of_ble_eq_true rfl) dX9_init_125 fun y125 => ?_
  refine v_putF hc hin kX9 25 (by decide) w_1156 rfl rfl rfl dX9_init_127 ⟨rfl, rfl⟩ fun h127 => ?_
  refine v_aload_n (i := 0) hc 0 rfl dX9_init_130 rfl ?_
  refine v_bipush (x := (10 : Int32)) hc dX9_init_131 zb_10 ?_
  refine v_newa (at' := .long) 1 10 rfl (by decide) hc hr w_328 (Nat.le_of_ble_eq_true rfl) (Nat.le_of_ble_eq_true rfl) (Nat.le_of_ble_eq_true rfl) dX9_init_133 fun y133 => ?_
  refine v_putF hc hin kX9 27 (by decide) w_1158 rfl rfl rfl dX9_init_135 ⟨rfl, rfl⟩ fun h135 => ?_
  refine v_aload_n (i := 0) hc 0 rfl dX9_init_138 rfl ?_
  refine v_bipush (x := (90 : Int32)) hc dX9_init_139 zb_90 ?_
  refine v_newa (at' := .int) 0 90 rfl (by decide) hc hr w_161 (Nat.le_of_ble_eq_true rfl) (Nat.le_of_ble_eq_true rfl) (Nat.le_of_ble_eq_true rfl) dX9_init_141 fun y141 => ?_
  refine v_putF hc hin kX9 28 (by decide) w_1159 rfl rfl rfl dX9_init_143 ⟨rfl, rfl⟩ fun h143 => ?_
  refine v_aload_n (i := 0) hc 0 rfl dX9_init_146 rfl ?_
  refine v_bipush (x := (90 : Int32)) hc dX9_init_147 zb_90 ?_
  refine v_newa (at' := .int) 0 90 rfl (by decide) hc hr w_161 (Nat.le_of_ble_eq_true rfl) (Nat.le_of_ble_eq_true rfl) (Nat.le_of_ble_eq_true rfl) dX9_init_149 fun y149 => ?_
  refine v_putF hc hin kX9 29 (by decide) w_1160 rfl rfl rfl dX9_init_151 ⟨rfl, rfl⟩ fun h151 => ?_
  refine v_aload_n (i := 0) hc 0 rfl dX9_init_154 rfl ?_
  refine v_bipush (x := (6 : Int32)) hc dX9_init_155 zb_6 ?_
  refine v_newa (at' := .int) 0 6 rfl (by decide) hc hr w_161 (Nat.le_of_ble_eq_true rfl) (Nat.le_of_ble_eq_true rfl) (Nat.le_of_ble_eq_true rfl) dX9_init_157 fun y157 => ?_
  refine v_putF hc hin kX9 31 (by decide) w_1162 rfl rfl rfl dX9_init_159 ⟨rfl, rfl⟩ fun h159 => ?_
  refine v_aload_n (i := 0) hc 0 rfl dX9_init_162 rfl ?_
  refine v_bipush (x := (6 : Int32)) hc dX9_init_163 zb_6 ?_
  refine v_newa (at' := .int) 0 6 rfl (by decide) hc hr w_161 (Nat.le_of_ble_eq_true rfl) (Nat.le_of_ble_eq_true rfl) (Nat.le_of_ble_eq_true rfl) dX9_init_165 fun y165 => ?_
  refine v_putF hc hin kX9 32 (by decide) w_1163 rfl rfl rfl dX9_init_167 ⟨rfl, rfl⟩ fun h167 => ?_
  refine v_aload_n (i := 0) hc 0 rfl dX9_init_170 rfl ?_
  refine v_bipush (x := (8 : Int32)) hc dX9_init_171 zb_8 ?_
  refine v_newa (at' := .int) 0 8 rfl (by decide) hc hr w_161 (Nat.le_of_ble_eq_true rfl) (Nat.le_of_ble_eq_true rfl) (Nat.le_of_ble_eq_true rfl) dX9_init_173 fun y173 => ?_
  refine v_putF hc hin kX9 33 (by decide) w_1164 rfl rfl rfl dX9_init_175 ⟨rfl, rfl⟩ fun h175 => ?_
  refine v_aload_n (i := 0) hc 0 rfl dX9_init_178 rfl ?_
  refine v_sipush (x := (20280 : Int32)) hc dX9_init_179 zs_20280 ?_
  refine v_newa (at' := .int) 0 20280 rfl (by decide) hc hr w_161 (Nat.le_of_ble_eq_true rfl) (Nat.le_of_ble_eq_true rfl) (Nat.le_of_ble_eq_true rfl) dX9_init_182 fun y182 => ?_
  refine v_putF hc hin kX9 34 (by decide) w_1165 rfl rfl rfl dX9_init_184 ⟨rfl, rfl⟩ fun h184 => ?_
  refine v_aload_n (i := 0) hc 0 rfl dX9_init_187 rfl ?_
  refine v_iconst (x := (4 : Int32)) hc dX9_init_188 zi_4 ?_
  refine v_newa (at' := .boolean) 3 4 rfl (by decide) hc hr w_1240 (Nat.le_of_ble_eq_true rfl) (Nat.le_of_ble_eq_true rfl) (Nat.le_of_ble_eq_true rfl) dX9_init_189 fun y189 => ?_
  refine v_putF hc hin kX9 35 (by decide) w_1166 rfl rfl rfl dX9_init_191 ⟨rfl, rfl⟩ fun h191 => ?_
  exact v_vret hc hq (Nat.le_of_ble_eq_true rfl) (Nat.le_of_ble_eq_true rfl) rfl dX9_init_194
theorem s9_init : YI yX9_init cX9_init 1 0 := ⟨w_1129, w_1128, w_118, rfl, by decide +kernel, by decide +kernel, by decide +kernel⟩
def f9_in (h : AH) (p0 : Int64) (p1 : Int64) (p2 : Int64) : Option (Bool) := (if p0 < p1 then some false else (if p2 < p0 then some false else some true))
set_option maxRecDepth 100000 in
theorem ct9_in (l : Launch) (D : va_G) (tys : Tys) (base : Nat) (h : AH) (p0 : Int64) (p1 : Int64) (p2 : Int64) : Ct l D tys base yX9_in cX9_in 6 (some .boolean) 0 0 0 0 [.long p0, .long p1, .long p2] h (rB h) (f9_in h p0 p1 p2) := by
  refine Ct.intro (own := RX9) (L := [(0, .long p0), (2, .long p1), (4, .long p2)]) rfl (by decide) rfl (Nat.le_of_ble_eq_true rfl) fun κ hc hr hq hi hL => ?_
  have hn : ∀ i, i < 6 → i < κ.2.2.2.2.1 := fun i q => hL ▸ q
  unfold f9_in
  refine v_lload_n (i := 0) hc 0 rfl dX9_in_0 rfl ?_
  refine v_lload_n (i := 2) hc 1 rfl dX9_in_1 rfl ?_
  refine v_lcmp_lt hc 17 dX9_in_2 dX9_in_3 rfl ?_ ?_
  · refine v_iconst (x := (0 : Int32)) hc dX9_in_17 zi_0 ?_
    exact v_iret (v := bI false) hc hq rfl (nar_b false) (Nat.le_of_ble_eq_true rfl) (Nat.le_of_ble_eq_true rfl) rfl dX9_in_18
  · refine v_lload_n (i := 0) hc 0 rfl dX9_in_6 rfl ?_
    refine v_lload (i := 4) hc 2 rfl dX9_in_7 ?_
    refine v_lcmp_gt hc 17 dX9_in_9 dX9_in_10 rfl ?_ ?_
    · refine v_iconst (x := (0 : Int32)) hc dX9_in_17 zi_0 ?_
      exact v_iret (v := bI false) hc hq rfl (nar_b false) (Nat.le_of_ble_eq_true rfl) (Nat.le_of_ble_eq_true rfl) rfl dX9_in_18
    · refine v_iconst (x := (1 : Int32)) hc dX9_in_13 zi_1 ?_
      refine v_goto hc 18 dX9_in_14 rfl ?_
      exact v_iret (v := bI true) hc hq rfl (nar_b true) (Nat.le_of_ble_eq_true rfl) (Nat.le_of_ble_eq_true rfl) rfl dX9_in_18
theorem s9_in : YS yX9_in cX9_in 6 (some .boolean) 3 := ⟨w_1248, w_1247, w_118, by decide +kernel, by decide +kernel, by decide +kernel⟩
def f9_clock (h : AH) (this : Nat) (p0 : Int32) : Option (Bool × AH) := (hObj 9 h this).bind fun _ => (fR 9 0 h this).bind fun x3 => (aI 0 h x3 (0 : Int32)).bind fun x7 => (f9_in h p0.toInt64 x7.toInt64 (519 : Int64)).bind fun x12 => (if x12 = true then (fR 9 0 h this).bind fun x21 => (sI 0 h x21 (0 : Int32) p0).bind fun h26 => some (true, h26) else some (false, h))
theorem ob9_clock {h : AH} {this : Nat} {p0 : Int32} {x : Bool × AH} (e : f9_clock h this p0 = some x) : ∃ fs, hObj 9 h this = some fs := by
  unfold f9_clock at e
  obtain ⟨fs, h1, -⟩ := bd e
  exact ⟨fs, h1⟩
set_option maxRecDepth 100000 in
theorem ct9_clock (l : Launch) (D : va_G) (tys : Tys) (base : Nat) (h : AH) (this : Nat) (p0 : Int32) : Ct l D tys base yX9_clock cX9_clock 2 (some .boolean) 1 25 0 0 [.ref this, .int p0] h (wB) (f9_clock h this p0) := by
  refine Ct.intro (own := RX9) (L := [(0, .ref this), (1, .int p0)]) rfl (by decide) rfl (Nat.le_of_ble_eq_true rfl) fun κ hc hr hq hi hL => ?_
  have hn : ∀ i, i < 2 → i < κ.2.2.2.2.1 := fun i q => hL ▸ q
  unfold f9_clock
  refine v_obj ?_
  refine v_iload_n (i := 1) hc 1 rfl dX9_clock_0 rfl ?_
  refine v_i2l hc dX9_clock_1 ?_
  refine v_aload_n (i := 0) hc 0 rfl dX9_clock_2 rfl ?_
  refine v_getV hc kX9 0 (by decide) w_1131 rfl dX9_clock_3 (gR rfl fun x3 => ?_)
  refine v_iconst (x := (0 : Int32)) hc dX9_clock_6 zi_0 ?_
  refine v_iald hc dX9_clock_7 fun x7 => ?_
  refine v_i2l hc dX9_clock_8 ?_
  refine v_ldc2 (x := (519 : Int64)) hc w_1245 dX9_clock_9 ?_
  refine v_cB hc (m_S' (As := [.long p0.toInt64, .long x7.toInt64, .long (519 : Int64)]) (rest := []) 3 hc hr (fun l D tys base => ct9_in l D tys base h p0.toInt64 x7.toInt64 (519 : Int64)) s9_in w_1246 rfl ⟨Nat.le_of_ble_eq_true rfl, Nat.le_of_ble_eq_true rfl⟩ ⟨Nat.le_of_ble_eq_true rfl, Nat.le_of_ble_eq_true rfl⟩ (Nat.le_of_ble_eq_true rfl) dX9_clock_12) fun x12 => ?_
  refine v_ifb_ne hc 20 dX9_clock_15 rfl ?_ ?_
  · refine v_aload_n (i := 0) hc 0 rfl dX9_clock_20 rfl ?_
    refine v_getV hc kX9 0 (by decide) w_1131 rfl dX9_clock_21 (gR rfl fun x21 => ?_)
    refine v_iconst (x := (0 : Int32)) hc dX9_clock_24 zi_0 ?_
    refine v_iload_n (i := 1) hc 1 rfl dX9_clock_25 rfl ?_
    refine v_iast hc dX9_clock_26 fun h26 => ?_
    refine v_iconst (x := (1 : Int32)) hc dX9_clock_27 zi_1 ?_
    exact v_iret (v := bI true) hc hq rfl (nar_b true) (Nat.le_of_ble_eq_true rfl) (Nat.le_of_ble_eq_true rfl) rfl dX9_clock_28
  · refine v_iconst (x := (0 : Int32)) hc dX9_clock_18 zi_0 ?_
    exact v_iret (v := bI false) hc hq rfl (nar_b false) (Nat.le_of_ble_eq_true rfl) (Nat.le_of_ble_eq_true rfl) rfl dX9_clock_19
theorem s9_clock : YV yX9_clock RX9 cX9_clock 2 (some .boolean) 1 := ⟨w_1244, w_1242, w_1243, w_118, rfl, by decide +kernel, by decide +kernel, by decide +kernel⟩
def f9_stuff (h : AH) (this : Nat) (p0 : Int32) (p1 : Int32) : Option (Int32 × AH) := (hObj 9 h this).bind fun _ => (fR 9 0 h this).bind fun x1 => (aI 0 h x1 (1 : Int32)).bind fun x5 => (if x5 = (10 : Int32) then some ((-1 : Int32), h) else (f9_in h p0.toInt64 (1800 : Int64) (1999 : Int64)).bind fun x19 => (if x19 = true then (f9_in h p1.toInt64 (1 : Int64) (99 : Int64)).bind fun x31 => (if x31 = true then (fR 9 0 h this).bind fun x40 => (fR 9 0 h this).bind fun x47 => (aI 0 h x47 (1 : Int32)).bind fun x51 => (sI 0 h x40 ((10 : Int32) + ((2 : Int32) * x51)) p0).bind fun h55 => (fR 9 0 h55 this).bind fun x57 => (fR 9 0 h55 this).bind fun x64 => (aI 0 h55 x64 (1 : Int32)).bind fun x68 => (sI 0 h55 x57 (((10 : Int32) + ((2 : Int32) * x68)) + (1 : Int32)) p1).bind fun h74 => (fR 9 0 h74 this).bind fun x76 => (aI 0 h74 x76 (1 : Int32)).bind fun x81 => (sI 0 h74 x76 (1 : Int32) (x81 + (1 : Int32))).bind fun h84 => (fR 9 0 h84 this).bind fun x86 => (aI 0 h84 x86 (1 : Int32)).bind fun x90 => some (x90 - (1 : Int32), h84) else some ((-1 : Int32), h)) else some ((-1 : Int32), h)))
theorem ob9_stuff {h : AH} {this : Nat} {p0 : Int32} {p1 : Int32} {x : Int32 × AH} (e : f9_stuff h this p0 p1 = some x) : ∃ fs, hObj 9 h this = some fs := by
  unfold f9_stuff at e
  obtain ⟨fs, h1, -⟩ := bd e
  exact ⟨fs, h1⟩
set_option maxRecDepth 100000 in
theorem ct9_stuff (l : Launch) (D : va_G) (tys : Tys) (base : Nat) (h : AH) (this : Nat) (p0 : Int32) (p1 : Int32) : Ct l D tys base yX9_stuff cX9_stuff 3 (some .int) 1 25 0 0 [.ref this, .int p0, .int p1] h (wI) (f9_stuff h this p0 p1) := by
  refine Ct.intro (own := RX9) (L := [(0, .ref this), (1, .int p0), (2, .int p1)]) rfl (by decide) rfl (Nat.le_of_ble_eq_true rfl) fun κ hc hr hq hi hL => ?_
  have hn : ∀ i, i < 3 → i < κ.2.2.2.2.1 := fun i q => hL ▸ q
  unfold f9_stuff
  refine v_obj ?_
  refine v_aload_n (i := 0) hc 0 rfl dX9_stuff_0 rfl ?_
  refine v_getV hc kX9 0 (by decide) w_1131 rfl dX9_stuff_1 (gR rfl fun x1 => ?_)
  refine v_iconst (x := (1 : Int32)) hc dX9_stuff_4 zi_1 ?_
  refine v_iald hc dX9_stuff_5 fun x5 => ?_
  refine v_bipush (x := (10 : Int32)) hc dX9_stuff_6 zb_10 ?_
  refine v_icmp_eq hc 37 dX9_stuff_8 rfl ?_ ?_
  · refine v_iconst (x := (-1 : Int32)) hc dX9_stuff_37 zi_m1 ?_
    exact v_iret hc hq rfl rfl (Nat.le_of_ble_eq_true rfl) (Nat.le_of_ble_eq_true rfl) rfl dX9_stuff_38
  · refine v_iload_n (i := 1) hc 1 rfl dX9_stuff_11 rfl ?_
    refine v_i2l hc dX9_stuff_12 ?_
    refine v_ldc2 (x := (1800 : Int64)) hc w_1253 dX9_stuff_13 ?_
    refine v_ldc2 (x := (1999 : Int64)) hc w_1254 dX9_stuff_16 ?_
    refine v_cB hc (m_S' (As := [.long p0.toInt64, .long (1800 : Int64), .long (1999 : Int64)]) (rest := []) 3 hc hr (fun l D tys base => ct9_in l D tys base h p0.toInt64 (1800 : Int64) (1999 : Int64)) s9_in w_1246 rfl ⟨Nat.le_of_ble_eq_true rfl, Nat.le_of_ble_eq_true rfl⟩ ⟨Nat.le_of_ble_eq_true rfl, Nat.le_of_ble_eq_true rfl⟩ (Nat.le_of_ble_eq_true rfl) dX9_stuff_19) fun x19 => ?_
    refine v_ifb_eq hc 37 dX9_stuff_22 rfl ?_ ?_
    · refine v_iconst (x := (-1 : Int32)) hc dX9_stuff_37 zi_m1 ?_
      exact v_iret hc hq rfl rfl (Nat.le_of_ble_eq_true rfl) (Nat.le_of_ble_eq_true rfl) rfl dX9_stuff_38
    · refine v_iload_n (i := 2) hc 2 rfl dX9_stuff_25 rfl ?_
      refine v_i2l hc dX9_stuff_26 ?_
      refine v_lconst (x := (1 : Int64)) hc dX9_stuff_27 (by decide) ?_
      refine v_ldc2 (x := (99 : Int64)) hc w_1255 dX9_stuff_28 ?_
      refine v_cB hc (m_S' (As := [.long p1.toInt64, .long (1 : Int64), .long (99 : Int64)]) (rest := []) 3 hc hr (fun l D tys base => ct9_in l D tys base h p1.toInt64 (1 : Int64) (99 : Int64)) s9_in w_1246 rfl ⟨Nat.le_of_ble_eq_true rfl, Nat.le_of_ble_eq_true rfl⟩ ⟨Nat.le_of_ble_eq_true rfl, Nat.le_of_ble_eq_true rfl⟩ (Nat.le_of_ble_eq_true rfl) dX9_stuff_31) fun x31 => ?_
      refine v_ifb_ne hc 39 dX9_stuff_34 rfl ?_ ?_
      · refine v_aload_n (i := 0) hc 0 rfl dX9_stuff_39 rfl ?_
        refine v_getV hc kX9 0 (by decide) w_1131 rfl dX9_stuff_40 (gR rfl fun x40 => ?_)
        refine v_bipush (x := (10 : Int32)) hc dX9_stuff_43 zb_10 ?_
        refine v_iconst (x := (2 : Int32)) hc dX9_stuff_45 zi_2 ?_
        refine v_aload_n (i := 0) hc 0 rfl dX9_stuff_46 rfl ?_
        refine v_getV hc kX9 0 (by decide) w_1131 rfl dX9_stuff_47 (gR rfl fun x47 => ?_)
        refine v_iconst (x := (1 : Int32)) hc dX9_stuff_50 zi_1 ?_
        refine v_iald hc dX9_stuff_51 fun x51 => ?_
        refine v_imul hc dX9_stuff_52 ?_
        refine v_iadd hc dX9_stuff_53 ?_
        refine v_iload_n (i := 1) hc 1 rfl dX9_stuff_54 rfl ?_
        refine v_iast hc dX9_stuff_55 fun h55 => ?_
        refine v_aload_n (i := 0) hc 0 rfl dX9_stuff_56 rfl ?_
        refine v_getV hc kX9 0 (by decide) w_1131 rfl dX9_stuff_57 (gR rfl fun x57 => ?_)
        refine v_bipush (x := (10 : Int32)) hc dX9_stuff_60 zb_10 ?_
        refine v_iconst (x := (2 : Int32)) hc dX9_stuff_62 zi_2 ?_
        refine v_aload_n (i := 0) hc 0 rfl dX9_stuff_63 rfl ?_
        refine v_getV hc kX9 0 (by decide) w_1131 rfl dX9_stuff_64 (gR rfl fun x64 => ?_)
        refine v_iconst (x := (1 : Int32)) hc dX9_stuff_67 zi_1 ?_
        refine v_iald hc dX9_stuff_68 fun x68 => ?_
        refine v_imul hc dX9_stuff_69 ?_
        refine v_iadd hc dX9_stuff_70 ?_
        refine v_iconst (x := (1 : Int32)) hc dX9_stuff_71 zi_1 ?_
        refine v_iadd hc dX9_stuff_72 ?_
        refine v_iload_n (i := 2) hc 2 rfl dX9_stuff_73 rfl ?_
        refine v_iast hc dX9_stuff_74 fun h74 => ?_
        refine v_aload_n (i := 0) hc 0 rfl dX9_stuff_75 rfl ?_
        refine v_getV hc kX9 0 (by decide) w_1131 rfl dX9_stuff_76 (gR rfl fun x76 => ?_)
        refine v_iconst (x := (1 : Int32)) hc dX9_stuff_79 zi_1 ?_
        refine v_dup2 hc dX9_stuff_80 rfl rfl ?_
        refine v_iald hc dX9_stuff_81 fun x81 => ?_
        refine v_iconst (x := (1 : Int32)) hc dX9_stuff_82 zi_1 ?_
        refine v_iadd hc dX9_stuff_83 ?_
        refine v_iast hc dX9_stuff_84 fun h84 => ?_
        refine v_aload_n (i := 0) hc 0 rfl dX9_stuff_85 rfl ?_
        refine v_getV hc kX9 0 (by decide) w_1131 rfl dX9_stuff_86 (gR rfl fun x86 => ?_)
        refine v_iconst (x := (1 : Int32)) hc dX9_stuff_89 zi_1 ?_
        refine v_iald hc dX9_stuff_90 fun x90 => ?_
        refine v_iconst (x := (1 : Int32)) hc dX9_stuff_91 zi_1 ?_
        refine v_isub hc dX9_stuff_92 ?_
        exact v_iret hc hq rfl rfl (Nat.le_of_ble_eq_true rfl) (Nat.le_of_ble_eq_true rfl) rfl dX9_stuff_93
      · refine v_iconst (x := (-1 : Int32)) hc dX9_stuff_37 zi_m1 ?_
        exact v_iret hc hq rfl rfl (Nat.le_of_ble_eq_true rfl) (Nat.le_of_ble_eq_true rfl) rfl dX9_stuff_38
theorem s9_stuff : YV yX9_stuff RX9 cX9_stuff 3 (some .int) 2 := ⟨w_1252, w_1250, w_1251, w_118, rfl, by decide +kernel, by decide +kernel, by decide +kernel⟩
def f9_isDay (h : AH) (p0 : Int32) : Option (Bool) := (if p0 < 0 then some false else (if (10000 : Int32) ≤ p0 then some false else some true))
set_option maxRecDepth 100000 in
theorem ct9_isDay (l : Launch) (D : va_G) (tys : Tys) (base : Nat) (h : AH) (p0 : Int32) : Ct l D tys base yX9_isDay cX9_isDay 1 (some .boolean) 0 0 0 0 [.int p0] h (rB h) (f9_isDay h p0) := by
  refine Ct.intro (own := RX9) (L := [(0, .int p0)]) rfl (by decide) rfl (Nat.le_of_ble_eq_true rfl) fun κ hc hr hq hi hL => ?_
  have hn : ∀ i, i < 1 → i < κ.2.2.2.2.1 := fun i q => hL ▸ q
  unfold f9_isDay
  refine v_iload_n (i := 0) hc 0 rfl dX9_isDay_0 rfl ?_
  refine v_if_lt hc 15 dX9_isDay_1 rfl ?_ ?_
  · refine v_iconst (x := (0 : Int32)) hc dX9_isDay_15 zi_0 ?_
    exact v_iret (v := bI false) hc hq rfl (nar_b false) (Nat.le_of_ble_eq_true rfl) (Nat.le_of_ble_eq_true rfl) rfl dX9_isDay_16
  · refine v_iload_n (i := 0) hc 0 rfl dX9_isDay_4 rfl ?_
    refine v_sipush (x := (10000 : Int32)) hc dX9_isDay_5 zs_10000 ?_
    refine v_icmp_ge hc 15 dX9_isDay_8 rfl ?_ ?_
    · refine v_iconst (x := (0 : Int32)) hc dX9_isDay_15 zi_0 ?_
      exact v_iret (v := bI false) hc hq rfl (nar_b false) (Nat.le_of_ble_eq_true rfl) (Nat.le_of_ble_eq_true rfl) rfl dX9_isDay_16
    · refine v_iconst (x := (1 : Int32)) hc dX9_isDay_11 zi_1 ?_
      refine v_goto hc 16 dX9_isDay_12 rfl ?_
      exact v_iret (v := bI true) hc hq rfl (nar_b true) (Nat.le_of_ble_eq_true rfl) (Nat.le_of_ble_eq_true rfl) rfl dX9_isDay_16
theorem s9_isDay : YS yX9_isDay cX9_isDay 1 (some .boolean) 1 := ⟨w_1262, w_1261, w_118, by decide +kernel, by decide +kernel, by decide +kernel⟩
def f9_truthOf_2 (h : AH) (v0 : Nat) (v1 : Int32) : Nat → Int32 → Option (Int32)
  | 0, _ => none
  | n + 1, v2 => (fR 9 0 h v0).bind fun x4 => (aI 0 h x4 (2 : Int32)).bind fun x8 => (if x8 ≤ v2 then some (-1 : Int32) else (fR 9 0 h v0).bind fun x13 => (aI 0 h x13 ((30 : Int32) + ((2 : Int32) * v2))).bind fun x22 => (if x22 = v1 then (fR 9 0 h v0).bind fun x28 => (aI 0 h x28 (((30 : Int32) + ((2 : Int32) * v2)) + (1 : Int32))).bind fun x39 => some x39 else (some (v2 + (1 : Int32))).bind fun x41 => f9_truthOf_2 h v0 v1 n x41))
set_option maxRecDepth 100000 in
theorem vl9_truthOf_2 {κ : Kx} (hc : CX κ RX9 cX9_truthOf) (hr : RX κ ({ frames := 0, cells := 0, slots := 0, locals := 0 } : Room)) (hq : QX κ (some .int) 0 0) (hL : 3 = κ.2.2.2.2.1)  (h : AH) (v0 : Nat) (v1 : Int32) : ∀ n (v2 : Int32), V κ (rI h) 0 0 2 [(0, .ref v0), (1, .int v1), (2, .int v2)] [] h (f9_truthOf_2 h v0 v1 n v2) := by
  have hn : ∀ i, i < 3 → i < κ.2.2.2.2.1 := fun i q => hL ▸ q
  intro n
  induction n with
  | zero => intros; exact v_none
  | succ n ih =>
    intro v2
    rw [f9_truthOf_2.eq_2]
    refine v_iload_n (i := 2) hc 2 rfl dX9_truthOf_2 rfl ?_
    refine v_aload_n (i := 0) hc 0 rfl dX9_truthOf_3 rfl ?_
    refine v_getV hc kX9 0 (by decide) w_1131 rfl dX9_truthOf_4 (gR rfl fun x4 => ?_)
    refine v_iconst (x := (2 : Int32)) hc dX9_truthOf_7 zi_2 ?_
    refine v_iald hc dX9_truthOf_8 fun x8 => ?_
    refine v_icmp_ge hc 47 dX9_truthOf_9 rfl ?_ ?_
    · refine v_iconst (x := (-1 : Int32)) hc dX9_truthOf_47 zi_m1 ?_
      exact v_iret hc hq rfl rfl (Nat.le_of_ble_eq_true rfl) (Nat.le_of_ble_eq_true rfl) rfl dX9_truthOf_48
    · refine v_aload_n (i := 0) hc 0 rfl dX9_truthOf_12 rfl ?_
      refine v_getV hc kX9 0 (by decide) w_1131 rfl dX9_truthOf_13 (gR rfl fun x13 => ?_)
      refine v_bipush (x := (30 : Int32)) hc dX9_truthOf_16 zb_30 ?_
      refine v_iconst (x := (2 : Int32)) hc dX9_truthOf_18 zi_2 ?_
      refine v_iload_n (i := 2) hc 2 rfl dX9_truthOf_19 rfl ?_
      refine v_imul hc dX9_truthOf_20 ?_
      refine v_iadd hc dX9_truthOf_21 ?_
      refine v_iald hc dX9_truthOf_22 fun x22 => ?_
      refine v_iload_n (i := 1) hc 1 rfl dX9_truthOf_23 rfl ?_
      refine v_icmp_ne hc 41 dX9_truthOf_24 rfl ?_ ?_
      · refine v_iincN (i := 2) (y := (1 : Int32)) (L' := fun z => [(2, .int z), (0, .ref v0), (1, .int v1)]) hc 2 rfl dX9_truthOf_41 zi_1 (hn 2 (Nat.le_of_ble_eq_true rfl)) (fun _ => rfl) fun x41 => ?_
        refine v_goto hc 2 dX9_truthOf_44 rfl ?_
        refine v_sub (L' := [(0, .ref v0), (1, .int v1), (2, .int x41)]) [1, 2, 0] rfl ?_
        exact ih x41
      · refine v_aload_n (i := 0) hc 0 rfl dX9_truthOf_27 rfl ?_
        refine v_getV hc kX9 0 (by decide) w_1131 rfl dX9_truthOf_28 (gR rfl fun x28 => ?_)
        refine v_bipush (x := (30 : Int32)) hc dX9_truthOf_31 zb_30 ?_
        refine v_iconst (x := (2 : Int32)) hc dX9_truthOf_33 zi_2 ?_
        refine v_iload_n (i := 2) hc 2 rfl dX9_truthOf_34 rfl ?_
        refine v_imul hc dX9_truthOf_35 ?_
        refine v_iadd hc dX9_truthOf_36 ?_
        refine v_iconst (x := (1 : Int32)) hc dX9_truthOf_37 zi_1 ?_
        refine v_iadd hc dX9_truthOf_38 ?_
        refine v_iald hc dX9_truthOf_39 fun x39 => ?_
        exact v_iret hc hq rfl rfl (Nat.le_of_ble_eq_true rfl) (Nat.le_of_ble_eq_true rfl) rfl dX9_truthOf_40
def f9_truthOf (h : AH) (this : Nat) (p0 : Int32) : Option (Int32) := (hObj 9 h this).bind fun _ => f9_truthOf_2 h this p0 FU (0 : Int32)
theorem ob9_truthOf {h : AH} {this : Nat} {p0 : Int32} {x : Int32} (e : f9_truthOf h this p0 = some x) : ∃ fs, hObj 9 h this = some fs := by
  unfold f9_truthOf at e
  obtain ⟨fs, h1, -⟩ := bd e
  exact ⟨fs, h1⟩
set_option maxRecDepth 100000 in
theorem ct9_truthOf (l : Launch) (D : va_G) (tys : Tys) (base : Nat) (h : AH) (this : Nat) (p0 : Int32) : Ct l D tys base yX9_truthOf cX9_truthOf 3 (some .int) 0 0 0 0 [.ref this, .int p0] h (rI h) (f9_truthOf h this p0) := by
  refine Ct.intro (own := RX9) (L := [(0, .ref this), (1, .int p0)]) rfl (by decide) rfl (Nat.le_of_ble_eq_true rfl) fun κ hc hr hq hi hL => ?_
  have hn : ∀ i, i < 3 → i < κ.2.2.2.2.1 := fun i q => hL ▸ q
  unfold f9_truthOf
  refine v_obj ?_
  refine v_iconst (x := (0 : Int32)) hc dX9_truthOf_0 zi_0 ?_
  refine v_istore_n (i := 2) (L' := [(2, .int (0 : Int32)), (0, .ref this), (1, .int p0)]) hc dX9_truthOf_1 rfl (hn 2 (Nat.le_of_ble_eq_true rfl)) rfl ?_
  refine v_sub (L' := [(0, .ref this), (1, .int p0), (2, .int (0 : Int32))]) [1, 2, 0] rfl ?_
  exact vl9_truthOf_2 hc hr hq hL h this p0 FU (0 : Int32)
theorem s9_truthOf : YV yX9_truthOf RX9 cX9_truthOf 3 (some .int) 1 := ⟨w_1266, w_1265, w_47, w_118, rfl, by decide +kernel, by decide +kernel, by decide +kernel⟩
def f9_truth (h : AH) (this : Nat) (p0 : Int32) (p1 : Int32) : Option (Int32 × AH) := (hObj 9 h this).bind fun _ => (fR 9 0 h this).bind fun x1 => (aI 0 h x1 (2 : Int32)).bind fun x5 => (if x5 = (200 : Int32) then some ((-1 : Int32), h) else (f9_isDay h p0).bind fun x13 => (if x13 = true then (f9_in h p1.toInt64 (0 : Int64) (99 : Int64)).bind fun x25 => (if x25 = true then (f9_truthOf h this p0).bind fun x33 => (if x33 = (-1 : Int32) then (fR 9 0 h this).bind fun x43 => (fR 9 0 h this).bind fun x50 => (aI 0 h x50 (2 : Int32)).bind fun x54 => (sI 0 h x43 ((30 : Int32) + ((2 : Int32) * x54)) p0).bind fun h58 => (fR 9 0 h58 this).bind fun x60 => (fR 9 0 h58 this).bind fun x67 => (aI 0 h58 x67 (2 : Int32)).bind fun x71 => (sI 0 h58 x60 (((30 : Int32) + ((2 : Int32) * x71)) + (1 : Int32)) p1).bind fun h77 => (fR 9 0 h77 this).bind fun x79 => (aI 0 h77 x79 (2 : Int32)).bind fun x84 => (sI 0 h77 x79 (2 : Int32) (x84 + (1 : Int32))).bind fun h87 => (fR 9 0 h87 this).bind fun x89 => (aI 0 h87 x89 (2 : Int32)).bind fun x93 => some (x93, h87) else some ((-1 : Int32), h)) else some ((-1 : Int32), h)) else some ((-1 : Int32), h)))
theorem ob9_truth {h : AH} {this : Nat} {p0 : Int32} {p1 : Int32} {x : Int32 × AH} (e : f9_truth h this p0 p1 = some x) : ∃ fs, hObj 9 h this = some fs := by
  unfold f9_truth at e
  obtain ⟨fs, h1, -⟩ := bd e
  exact ⟨fs, h1⟩
set_option maxRecDepth 100000 in
theorem ct9_truth (l : Launch) (D : va_G) (tys : Tys) (base : Nat) (h : AH) (this : Nat) (p0 : Int32) (p1 : Int32) : Ct l D tys base yX9_truth cX9_truth 3 (some .int) 1 25 0 0 [.ref this, .int p0, .int p1] h (wI) (f9_truth h this p0 p1) := by
  refine Ct.intro (own := RX9) (L := [(0, .ref this), (1, .int p0), (2, .int p1)]) rfl (by decide) rfl (Nat.le_of_ble_eq_true rfl) fun κ hc hr hq hi hL => ?_
  have hn : ∀ i, i < 3 → i < κ.2.2.2.2.1 := fun i q => hL ▸ q
  unfold f9_truth
  refine v_obj ?_
  refine v_aload_n (i := 0) hc 0 rfl dX9_truth_0 rfl ?_
  refine v_getV hc kX9 0 (by decide) w_1131 rfl dX9_truth_1 (gR rfl fun x1 => ?_)
  refine v_iconst (x := (2 : Int32)) hc dX9_truth_4 zi_2 ?_
  refine v_iald hc dX9_truth_5 fun x5 => ?_
  refine v_sipush (x := (200 : Int32)) hc dX9_truth_6 zs_200 ?_
  refine v_icmp_eq hc 40 dX9_truth_9 rfl ?_ ?_
  · refine v_iconst (x := (-1 : Int32)) hc dX9_truth_40 zi_m1 ?_
    exact v_iret hc hq rfl rfl (Nat.le_of_ble_eq_true rfl) (Nat.le_of_ble_eq_true rfl) rfl dX9_truth_41
  · refine v_iload_n (i := 1) hc 1 rfl dX9_truth_12 rfl ?_
    refine v_cB hc (m_S' (As := [.int p0]) (rest := []) 1 hc hr (fun l D tys base => ct9_isDay l D tys base h p0) s9_isDay w_1260 rfl ⟨Nat.le_of_ble_eq_true rfl, Nat.le_of_ble_eq_true rfl⟩ ⟨Nat.le_of_ble_eq_true rfl, Nat.le_of_ble_eq_true rfl⟩ (Nat.le_of_ble_eq_true rfl) dX9_truth_13) fun x13 => ?_
    refine v_ifb_eq hc 40 dX9_truth_16 rfl ?_ ?_
    · refine v_iconst (x := (-1 : Int32)) hc dX9_truth_40 zi_m1 ?_
      exact v_iret hc hq rfl rfl (Nat.le_of_ble_eq_true rfl) (Nat.le_of_ble_eq_true rfl) rfl dX9_truth_41
    · refine v_iload_n (i := 2) hc 2 rfl dX9_truth_19 rfl ?_
      refine v_i2l hc dX9_truth_20 ?_
      refine v_lconst (x := (0 : Int64)) hc dX9_truth_21 (by decide) ?_
      refine v_ldc2 (x := (99 : Int64)) hc w_1255 dX9_truth_22 ?_
      refine v_cB hc (m_S' (As := [.long p1.toInt64, .long (0 : Int64), .long (99 : Int64)]) (rest := []) 3 hc hr (fun l D tys base => ct9_in l D tys base h p1.toInt64 (0 : Int64) (99 : Int64)) s9_in w_1246 rfl ⟨Nat.le_of_ble_eq_true rfl, Nat.le_of_ble_eq_true rfl⟩ ⟨Nat.le_of_ble_eq_true rfl, Nat.le_of_ble_eq_true rfl⟩ (Nat.le_of_ble_eq_true rfl) dX9_truth_25) fun x25 => ?_
      refine v_ifb_eq hc 40 dX9_truth_28 rfl ?_ ?_
      · refine v_iconst (x := (-1 : Int32)) hc dX9_truth_40 zi_m1 ?_
        exact v_iret hc hq rfl rfl (Nat.le_of_ble_eq_true rfl) (Nat.le_of_ble_eq_true rfl) rfl dX9_truth_41
      · refine v_aload_n (i := 0) hc 0 rfl dX9_truth_31 rfl ?_
        refine v_iload_n (i := 1) hc 1 rfl dX9_truth_32 rfl ?_
        refine v_cI hc (m_V' (As := [.int p0]) (b := this) (rest := []) 1 hc hr (fun l D tys base => ct9_truthOf l D tys base h this p0) (fun x hx => ob9_truthOf hx) rfl s9_truthOf w_1263 rfl ⟨Nat.le_of_ble_eq_true rfl, Nat.le_of_ble_eq_true rfl⟩ ⟨Nat.le_of_ble_eq_true rfl, Nat.le_of_ble_eq_true rfl⟩ (Nat.le_of_ble_eq_true rfl) dX9_truth_33) fun x33 => ?_
        refine v_iconst (x := (-1 : Int32)) hc dX9_truth_36 zi_m1 ?_
        refine v_icmp_eq hc 42 dX9_truth_37 rfl ?_ ?_
        · refine v_aload_n (i := 0) hc 0 rfl dX9_truth_42 rfl ?_
          refine v_getV hc kX9 0 (by decide) w_1131 rfl dX9_truth_43 (gR rfl fun x43 => ?_)
          refine v_bipush (x := (30 : Int32)) hc dX9_truth_46 zb_30 ?_
          refine v_iconst (x := (2 : Int32)) hc dX9_truth_48 zi_2 ?_
          refine v_aload_n (i := 0) hc 0 rfl dX9_truth_49 rfl ?_
          refine v_getV hc kX9 0 (by decide) w_1131 rfl dX9_truth_50 (gR rfl fun x50 => ?_)
          refine v_iconst (x := (2 : Int32)) hc dX9_truth_53 zi_2 ?_
          refine v_iald hc dX9_truth_54 fun x54 => ?_
          refine v_imul hc dX9_truth_55 ?_
          refine v_iadd hc dX9_truth_56 ?_
          refine v_iload_n (i := 1) hc 1 rfl dX9_truth_57 rfl ?_
          refine v_iast hc dX9_truth_58 fun h58 => ?_
          refine v_aload_n (i := 0) hc 0 rfl dX9_truth_59 rfl ?_
          refine v_getV hc kX9 0 (by decide) w_1131 rfl dX9_truth_60 (gR rfl fun x60 => ?_)
          refine v_bipush (x := (30 : Int32)) hc dX9_truth_63 zb_30 ?_
          refine v_iconst (x := (2 : Int32)) hc dX9_truth_65 zi_2 ?_
          refine v_aload_n (i := 0) hc 0 rfl dX9_truth_66 rfl ?_
          refine v_getV hc kX9 0 (by decide) w_1131 rfl dX9_truth_67 (gR rfl fun x67 => ?_)
          refine v_iconst (x := (2 : Int32)) hc dX9_truth_70 zi_2 ?_
          refine v_iald hc dX9_truth_71 fun x71 => ?_
          refine v_imul hc dX9_truth_72 ?_
          refine v_iadd hc dX9_truth_73 ?_
          refine v_iconst (x := (1 : Int32)) hc dX9_truth_74 zi_1 ?_
          refine v_iadd hc dX9_truth_75 ?_
          refine v_iload_n (i := 2) hc 2 rfl dX9_truth_76 rfl ?_
          refine v_iast hc dX9_truth_77 fun h77 => ?_
          refine v_aload_n (i := 0) hc 0 rfl dX9_truth_78 rfl ?_
          refine v_getV hc kX9 0 (by decide) w_1131 rfl dX9_truth_79 (gR rfl fun x79 => ?_)
          refine v_iconst (x := (2 : Int32)) hc dX9_truth_82 zi_2 ?_
          refine v_dup2 hc dX9_truth_83 rfl rfl ?_
          refine v_iald hc dX9_truth_84 fun x84 => ?_
          refine v_iconst (x := (1 : Int32)) hc dX9_truth_85 zi_1 ?_
          refine v_iadd hc dX9_truth_86 ?_
          refine v_iast hc dX9_truth_87 fun h87 => ?_
          refine v_aload_n (i := 0) hc 0 rfl dX9_truth_88 rfl ?_
          refine v_getV hc kX9 0 (by decide) w_1131 rfl dX9_truth_89 (gR rfl fun x89 => ?_)
          refine v_iconst (x := (2 : Int32)) hc dX9_truth_92 zi_2 ?_
          refine v_iald hc dX9_truth_93 fun x93 => ?_
          exact v_iret hc hq rfl rfl (Nat.le_of_ble_eq_true rfl) (Nat.le_of_ble_eq_true rfl) rfl dX9_truth_94
        · refine v_iconst (x := (-1 : Int32)) hc dX9_truth_40 zi_m1 ?_
          exact v_iret hc hq rfl rfl (Nat.le_of_ble_eq_true rfl) (Nat.le_of_ble_eq_true rfl) rfl dX9_truth_41
theorem s9_truth : YV yX9_truth RX9 cX9_truth 3 (some .int) 2 := ⟨w_1259, w_1257, w_1258, w_118, rfl, by decide +kernel, by decide +kernel, by decide +kernel⟩
def f9_factOf_2 (h : AH) (v0 : Nat) (v1 : Int32) (v2 : Int32) : Nat → Int32 → Option (Int32)
  | 0, _ => none
  | n + 1, v3 => (fR 9 0 h v0).bind fun x4 => (aI 0 h x4 (3 : Int32)).bind fun x8 => (if x8 ≤ v3 then some (-1 : Int32) else (fR 9 0 h v0).bind fun x13 => (aI 0 h x13 ((430 : Int32) + ((3 : Int32) * v3))).bind fun x23 => (if x23 = v1 then (fR 9 0 h v0).bind fun x29 => (aI 0 h x29 (((430 : Int32) + ((3 : Int32) * v3)) + (1 : Int32))).bind fun x41 => (if x41 = v2 then (fR 9 0 h v0).bind fun x47 => (aI 0 h x47 (((430 : Int32) + ((3 : Int32) * v3)) + (2 : Int32))).bind fun x59 => some x59 else (some (v3 + (1 : Int32))).bind fun x61 => f9_factOf_2 h v0 v1 v2 n x61) else (some (v3 + (1 : Int32))).bind fun x61 => f9_factOf_2 h v0 v1 v2 n x61))
set_option maxRecDepth 100000 in
theorem vl9_factOf_2 {κ : Kx} (hc : CX κ RX9 cX9_factOf) (hr : RX κ ({ frames := 0, cells := 0, slots := 0, locals := 0 } : Room)) (hq : QX κ (some .int) 0 0) (hL : 4 = κ.2.2.2.2.1)  (h : AH) (v0 : Nat) (v1 : Int32) (v2 : Int32) : ∀ n (v3 : Int32), V κ (rI h) 0 0 2 [(0, .ref v0), (1, .int v1), (2, .int v2), (3, .int v3)] [] h (f9_factOf_2 h v0 v1 v2 n v3) := by
  have hn : ∀ i, i < 4 → i < κ.2.2.2.2.1 := fun i q => hL ▸ q
  intro n
  induction n with
  | zero => intros; exact v_none
  | succ n ih =>
    intro v3
    rw [f9_factOf_2.eq_2]
    refine v_iload_n (i := 3) hc 3 rfl dX9_factOf_2 rfl ?_
    refine v_aload_n (i := 0) hc 0 rfl dX9_factOf_3 rfl ?_
    refine v_getV hc kX9 0 (by decide) w_1131 rfl dX9_factOf_4 (gR rfl fun x4 => ?_)
    refine v_iconst (x := (3 : Int32)) hc dX9_factOf_7 zi_3 ?_
    refine v_iald hc dX9_factOf_8 fun x8 => ?_
    refine v_icmp_ge hc 67 dX9_factOf_9 rfl ?_ ?_
    · refine v_iconst (x := (-1 : Int32)) hc dX9_factOf_67 zi_m1 ?_
      exact v_iret hc hq rfl rfl (Nat.le_of_ble_eq_true rfl) (Nat.le_of_ble_eq_true rfl) rfl dX9_factOf_68
    · refine v_aload_n (i := 0) hc 0 rfl dX9_factOf_12 rfl ?_
      refine v_getV hc kX9 0 (by decide) w_1131 rfl dX9_factOf_13 (gR rfl fun x13 => ?_)
      refine v_sipush (x := (430 : Int32)) hc dX9_factOf_16 zs_430 ?_
      refine v_iconst (x := (3 : Int32)) hc dX9_factOf_19 zi_3 ?_
      refine v_iload_n (i := 3) hc 3 rfl dX9_factOf_20 rfl ?_
      refine v_imul hc dX9_factOf_21 ?_
      refine v_iadd hc dX9_factOf_22 ?_
      refine v_iald hc dX9_factOf_23 fun x23 => ?_
      refine v_iload_n (i := 1) hc 1 rfl dX9_factOf_24 rfl ?_
      refine v_icmp_ne hc 61 dX9_factOf_25 rfl ?_ ?_
      · refine v_iincN (i := 3) (y := (1 : Int32)) (L' := fun z => [(3, .int z), (0, .ref v0), (1, .int v1), (2, .int v2)]) hc 3 rfl dX9_factOf_61 zi_1 (hn 3 (Nat.le_of_ble_eq_true rfl)) (fun _ => rfl) fun x61 => ?_
        refine v_goto hc 2 dX9_factOf_64 rfl ?_
        refine v_sub (L' := [(0, .ref v0), (1, .int v1), (2, .int v2), (3, .int x61)]) [1, 2, 3, 0] rfl ?_
        exact ih x61
      · refine v_aload_n (i := 0) hc 0 rfl dX9_factOf_28 rfl ?_
        refine v_getV hc kX9 0 (by decide) w_1131 rfl dX9_factOf_29 (gR rfl fun x29 => ?_)
        refine v_sipush (x := (430 : Int32)) hc dX9_factOf_32 zs_430 ?_
        refine v_iconst (x := (3 : Int32)) hc dX9_factOf_35 zi_3 ?_
        refine v_iload_n (i := 3) hc 3 rfl dX9_factOf_36 rfl ?_
        refine v_imul hc dX9_factOf_37 ?_
        refine v_iadd hc dX9_factOf_38 ?_
        refine v_iconst (x := (1 : Int32)) hc dX9_factOf_39 zi_1 ?_
        refine v_iadd hc dX9_factOf_40 ?_
        refine v_iald hc dX9_factOf_41 fun x41 => ?_
        refine v_iload_n (i := 2) hc 2 rfl dX9_factOf_42 rfl ?_
        refine v_icmp_ne hc 61 dX9_factOf_43 rfl ?_ ?_
        · refine v_iincN (i := 3) (y := (1 : Int32)) (L' := fun z => [(3, .int z), (0, .ref v0), (1, .int v1), (2, .int v2)]) hc 3 rfl dX9_factOf_61 zi_1 (hn 3 (Nat.le_of_ble_eq_true rfl)) (fun _ => rfl) fun x61 => ?_
          refine v_goto hc 2 dX9_factOf_64 rfl ?_
          refine v_sub (L' := [(0, .ref v0), (1, .int v1), (2, .int v2), (3, .int x61)]) [1, 2, 3, 0] rfl ?_
          exact ih x61
        · refine v_aload_n (i := 0) hc 0 rfl dX9_factOf_46 rfl ?_
          refine v_getV hc kX9 0 (by decide) w_1131 rfl dX9_factOf_47 (gR rfl fun x47 => ?_)
          refine v_sipush (x := (430 : Int32)) hc dX9_factOf_50 zs_430 ?_
          refine v_iconst (x := (3 : Int32)) hc dX9_factOf_53 zi_3 ?_
          refine v_iload_n (i := 3) hc 3 rfl dX9_factOf_54 rfl ?_
          refine v_imul hc dX9_factOf_55 ?_
          refine v_iadd hc dX9_factOf_56 ?_
          refine v_iconst (x := (2 : Int32)) hc dX9_factOf_57 zi_2 ?_
          refine v_iadd hc dX9_factOf_58 ?_
          refine v_iald hc dX9_factOf_59 fun x59 => ?_
          exact v_iret hc hq rfl rfl (Nat.le_of_ble_eq_true rfl) (Nat.le_of_ble_eq_true rfl) rfl dX9_factOf_60
def f9_factOf (h : AH) (this : Nat) (p0 : Int32) (p1 : Int32) : Option (Int32) := (hObj 9 h this).bind fun _ => f9_factOf_2 h this p0 p1 FU (0 : Int32)
theorem ob9_factOf {h : AH} {this : Nat} {p0 : Int32} {p1 : Int32} {x : Int32} (e : f9_factOf h this p0 p1 = some x) : ∃ fs, hObj 9 h this = some fs := by
  unfold f9_factOf at e
  obtain ⟨fs, h1, -⟩ := bd e
  exact ⟨fs, h1⟩
set_option maxRecDepth 100000 in
theorem ct9_factOf (l : Launch) (D : va_G) (tys : Tys) (base : Nat) (h : AH) (this : Nat) (p0 : Int32) (p1 : Int32) : Ct l D tys base yX9_factOf cX9_factOf 4 (some .int) 0 0 0 0 [.ref this, .int p0, .int p1] h (rI h) (f9_factOf h this p0 p1) := by
  refine Ct.intro (own := RX9) (L := [(0, .ref this), (1, .int p0), (2, .int p1)]) rfl (by decide) rfl (Nat.le_of_ble_eq_true rfl) fun κ hc hr hq hi hL => ?_
  have hn : ∀ i, i < 4 → i < κ.2.2.2.2.1 := fun i q => hL ▸ q
  unfold f9_factOf
  refine v_obj ?_
  refine v_iconst (x := (0 : Int32)) hc dX9_factOf_0 zi_0 ?_
  refine v_istore_n (i := 3) (L' := [(3, .int (0 : Int32)), (0, .ref this), (1, .int p0), (2, .int p1)]) hc dX9_factOf_1 rfl (hn 3 (Nat.le_of_ble_eq_true rfl)) rfl ?_
  refine v_sub (L' := [(0, .ref this), (1, .int p0), (2, .int p1), (3, .int (0 : Int32))]) [1, 2, 3, 0] rfl ?_
  exact vl9_factOf_2 hc hr hq hL h this p0 p1 FU (0 : Int32)
theorem s9_factOf : YV yX9_factOf RX9 cX9_factOf 4 (some .int) 2 := ⟨w_1275, w_1274, w_48, w_118, rfl, by decide +kernel, by decide +kernel, by decide +kernel⟩
def f9_fact (h : AH) (this : Nat) (p0 : Int32) (p1 : Int32) (p2 : Int32) : Option (Int32 × AH) := (hObj 9 h this).bind fun _ => (fR 9 0 h this).bind fun x1 => (aI 0 h x1 (3 : Int32)).bind fun x5 => (if x5 = (300 : Int32) then some ((-1 : Int32), h) else (f9_in h p0.toInt64 (0 : Int64) (5 : Int64)).bind fun x18 => (if x18 = true then (f9_isDay h p1).bind fun x25 => (if x25 = true then (f9_in h p2.toInt64 (0 : Int64) (99 : Int64)).bind fun x37 => (if x37 = true then (f9_factOf h this p0 p1).bind fun x46 => (if x46 = (-1 : Int32) then (fR 9 0 h this).bind fun x60 => (aI 0 h x60 (3 : Int32)).bind fun x64 => (some ((430 : Int32) + ((3 : Int32) * x64))).bind fun x67 => (fR 9 0 h this).bind fun x70 => (sI 0 h x70 x67 p0).bind fun h76 => (fR 9 0 h76 this).bind fun x78 => (sI 0 h76 x78 (x67 + (1 : Int32)) p1).bind fun h86 => (fR 9 0 h86 this).bind fun x88 => (sI 0 h86 x88 (x67 + (2 : Int32)) p2).bind fun h96 => (fR 9 0 h96 this).bind fun x98 => (aI 0 h96 x98 (3 : Int32)).bind fun x103 => (sI 0 h96 x98 (3 : Int32) (x103 + (1 : Int32))).bind fun h106 => (fR 9 0 h106 this).bind fun x108 => (aI 0 h106 x108 (3 : Int32)).bind fun x112 => some (x112, h106) else some ((-1 : Int32), h)) else some ((-1 : Int32), h)) else some ((-1 : Int32), h)) else some ((-1 : Int32), h)))
theorem ob9_fact {h : AH} {this : Nat} {p0 : Int32} {p1 : Int32} {p2 : Int32} {x : Int32 × AH} (e : f9_fact h this p0 p1 p2 = some x) : ∃ fs, hObj 9 h this = some fs := by
  unfold f9_fact at e
  obtain ⟨fs, h1, -⟩ := bd e
  exact ⟨fs, h1⟩
set_option maxRecDepth 100000 in
theorem ct9_fact (l : Launch) (D : va_G) (tys : Tys) (base : Nat) (h : AH) (this : Nat) (p0 : Int32) (p1 : Int32) (p2 : Int32) : Ct l D tys base yX9_fact cX9_fact 5 (some .int) 1 25 0 0 [.ref this, .int p0, .int p1, .int p2] h (wI) (f9_fact h this p0 p1 p2) := by
  refine Ct.intro (own := RX9) (L := [(0, .ref this), (1, .int p0), (2, .int p1), (3, .int p2)]) rfl (by decide) rfl (Nat.le_of_ble_eq_true rfl) fun κ hc hr hq hi hL => ?_
  have hn : ∀ i, i < 5 → i < κ.2.2.2.2.1 := fun i q => hL ▸ q
  unfold f9_fact
  refine v_obj ?_
  refine v_aload_n (i := 0) hc 0 rfl dX9_fact_0 rfl ?_
  refine v_getV hc kX9 0 (by decide) w_1131 rfl dX9_fact_1 (gR rfl fun x1 => ?_)
  refine v_iconst (x := (3 : Int32)) hc dX9_fact_4 zi_3 ?_
  refine v_iald hc dX9_fact_5 fun x5 => ?_
  refine v_sipush (x := (300 : Int32)) hc dX9_fact_6 zs_300 ?_
  refine v_icmp_eq hc 53 dX9_fact_9 rfl ?_ ?_
  · refine v_iconst (x := (-1 : Int32)) hc dX9_fact_53 zi_m1 ?_
    exact v_iret hc hq rfl rfl (Nat.le_of_ble_eq_true rfl) (Nat.le_of_ble_eq_true rfl) rfl dX9_fact_54
  · refine v_iload_n (i := 1) hc 1 rfl dX9_fact_12 rfl ?_
    refine v_i2l hc dX9_fact_13 ?_
    refine v_lconst (x := (0 : Int64)) hc dX9_fact_14 (by decide) ?_
    refine v_ldc2 (x := (5 : Int64)) hc w_1271 dX9_fact_15 ?_
    refine v_cB hc (m_S' (As := [.long p0.toInt64, .long (0 : Int64), .long (5 : Int64)]) (rest := []) 3 hc hr (fun l D tys base => ct9_in l D tys base h p0.toInt64 (0 : Int64) (5 : Int64)) s9_in w_1246 rfl ⟨Nat.le_of_ble_eq_true rfl, Nat.le_of_ble_eq_true rfl⟩ ⟨Nat.le_of_ble_eq_true rfl, Nat.le_of_ble_eq_true rfl⟩ (Nat.le_of_ble_eq_true rfl) dX9_fact_18) fun x18 => ?_
    refine v_ifb_eq hc 53 dX9_fact_21 rfl ?_ ?_
    · refine v_iconst (x := (-1 : Int32)) hc dX9_fact_53 zi_m1 ?_
      exact v_iret hc hq rfl rfl (Nat.le_of_ble_eq_true rfl) (Nat.le_of_ble_eq_true rfl) rfl dX9_fact_54
    · refine v_iload_n (i := 2) hc 2 rfl dX9_fact_24 rfl ?_
      refine v_cB hc (m_S' (As := [.int p1]) (rest := []) 1 hc hr (fun l D tys base => ct9_isDay l D tys base h p1) s9_isDay w_1260 rfl ⟨Nat.le_of_ble_eq_true rfl, Nat.le_of_ble_eq_true rfl⟩ ⟨Nat.le_of_ble_eq_true rfl, Nat.le_of_ble_eq_true rfl⟩ (Nat.le_of_ble_eq_true rfl) dX9_fact_25) fun x25 => ?_
      refine v_ifb_eq hc 53 dX9_fact_28 rfl ?_ ?_
      · refine v_iconst (x := (-1 : Int32)) hc dX9_fact_53 zi_m1 ?_
        exact v_iret hc hq rfl rfl (Nat.le_of_ble_eq_true rfl) (Nat.le_of_ble_eq_true rfl) rfl dX9_fact_54
      · refine v_iload_n (i := 3) hc 3 rfl dX9_fact_31 rfl ?_
        refine v_i2l hc dX9_fact_32 ?_
        refine v_lconst (x := (0 : Int64)) hc dX9_fact_33 (by decide) ?_
        refine v_ldc2 (x := (99 : Int64)) hc w_1255 dX9_fact_34 ?_
        refine v_cB hc (m_S' (As := [.long p2.toInt64, .long (0 : Int64), .long (99 : Int64)]) (rest := []) 3 hc hr (fun l D tys base => ct9_in l D tys base h p2.toInt64 (0 : Int64) (99 : Int64)) s9_in w_1246 rfl ⟨Nat.le_of_ble_eq_true rfl, Nat.le_of_ble_eq_true rfl⟩ ⟨Nat.le_of_ble_eq_true rfl, Nat.le_of_ble_eq_true rfl⟩ (Nat.le_of_ble_eq_true rfl) dX9_fact_37) fun x37 => ?_
        refine v_ifb_eq hc 53 dX9_fact_40 rfl ?_ ?_
        · refine v_iconst (x := (-1 : Int32)) hc dX9_fact_53 zi_m1 ?_
          exact v_iret hc hq rfl rfl (Nat.le_of_ble_eq_true rfl) (Nat.le_of_ble_eq_true rfl) rfl dX9_fact_54
        · refine v_aload_n (i := 0) hc 0 rfl dX9_fact_43 rfl ?_
          refine v_iload_n (i := 1) hc 1 rfl dX9_fact_44 rfl ?_
          refine v_iload_n (i := 2) hc 2 rfl dX9_fact_45 rfl ?_
          refine v_cI hc (m_V' (As := [.int p0, .int p1]) (b := this) (rest := []) 2 hc hr (fun l D tys base => ct9_factOf l D tys base h this p0 p1) (fun x hx => ob9_factOf hx) rfl s9_factOf w_1272 rfl ⟨Nat.le_of_ble_eq_true rfl, Nat.le_of_ble_eq_true rfl⟩ ⟨Nat.le_of_ble_eq_true rfl, Nat.le_of_ble_eq_true rfl⟩ (Nat.le_of_ble_eq_true rfl) dX9_fact_46) fun x46 => ?_
          refine v_iconst (x := (-1 : Int32)) hc dX9_fact_49 zi_m1 ?_
          refine v_icmp_eq hc 55 dX9_fact_50 rfl ?_ ?_
          · refine v_sipush (x := (430 : Int32)) hc dX9_fact_55 zs_430 ?_
            refine v_iconst (x := (3 : Int32)) hc dX9_fact_58 zi_3 ?_
            refine v_aload_n (i := 0) hc 0 rfl dX9_fact_59 rfl ?_
            refine v_getV hc kX9 0 (by decide) w_1131 rfl dX9_fact_60 (gR rfl fun x60 => ?_)
            refine v_iconst (x := (3 : Int32)) hc dX9_fact_63 zi_3 ?_
            refine v_iald hc dX9_fact_64 fun x64 => ?_
            refine v_imul hc dX9_fact_65 ?_
            refine v_iadd hc dX9_fact_66 ?_
            refine v_nmI fun x67 => ?_
            refine v_istore (i := 4) (L' := [(4, .int x67), (0, .ref this), (1, .int p0), (2, .int p1), (3, .int p2)]) hc dX9_fact_67 (hn 4 (Nat.le_of_ble_eq_true rfl)) rfl ?_
            refine v_aload_n (i := 0) hc 1 rfl dX9_fact_69 rfl ?_
            refine v_getV hc kX9 0 (by decide) w_1131 rfl dX9_fact_70 (gR rfl fun x70 => ?_)
            refine v_iload (i := 4) hc 0 rfl dX9_fact_73 ?_
            refine v_iload_n (i := 1) hc 2 rfl dX9_fact_75 rfl ?_
            refine v_iast hc dX9_fact_76 fun h76 => ?_
            refine v_aload_n (i := 0) hc 1 rfl dX9_fact_77 rfl ?_
            refine v_getV hc kX9 0 (by decide) w_1131 rfl dX9_fact_78 (gR rfl fun x78 => ?_)
            refine v_iload (i := 4) hc 0 rfl dX9_fact_81 ?_
            refine v_iconst (x := (1 : Int32)) hc dX9_fact_83 zi_1 ?_
            refine v_iadd hc dX9_fact_84 ?_
            refine v_iload_n (i := 2) hc 3 rfl dX9_fact_85 rfl ?_
            refine v_iast hc dX9_fact_86 fun h86 => ?_
            refine v_aload_n (i := 0) hc 1 rfl dX9_fact_87 rfl ?_
            refine v_getV hc kX9 0 (by decide) w_1131 rfl dX9_fact_88 (gR rfl fun x88 => ?_)
            refine v_iload (i := 4) hc 0 rfl dX9_fact_91 ?_
            refine v_iconst (x := (2 : Int32)) hc dX9_fact_93 zi_2 ?_
            refine v_iadd hc dX9_fact_94 ?_
            refine v_iload_n (i := 3) hc 4 rfl dX9_fact_95 rfl ?_
            refine v_iast hc dX9_fact_96 fun h96 => ?_
            refine v_aload_n (i := 0) hc 1 rfl dX9_fact_97 rfl ?_
            refine v_getV hc kX9 0 (by decide) w_1131 rfl dX9_fact_98 (gR rfl fun x98 => ?_)
            refine v_iconst (x := (3 : Int32)) hc dX9_fact_101 zi_3 ?_
            refine v_dup2 hc dX9_fact_102 rfl rfl ?_
            refine v_iald hc dX9_fact_103 fun x103 => ?_
            refine v_iconst (x := (1 : Int32)) hc dX9_fact_104 zi_1 ?_
            refine v_iadd hc dX9_fact_105 ?_
            refine v_iast hc dX9_fact_106 fun h106 => ?_
            refine v_aload_n (i := 0) hc 1 rfl dX9_fact_107 rfl ?_
            refine v_getV hc kX9 0 (by decide) w_1131 rfl dX9_fact_108 (gR rfl fun x108 => ?_)
            refine v_iconst (x := (3 : Int32)) hc dX9_fact_111 zi_3 ?_
            refine v_iald hc dX9_fact_112 fun x112 => ?_
            exact v_iret hc hq rfl rfl (Nat.le_of_ble_eq_true rfl) (Nat.le_of_ble_eq_true rfl) rfl dX9_fact_113
          · refine v_iconst (x := (-1 : Int32)) hc dX9_fact_53 zi_m1 ?_
            exact v_iret hc hq rfl rfl (Nat.le_of_ble_eq_true rfl) (Nat.le_of_ble_eq_true rfl) rfl dX9_fact_54
theorem s9_fact : YV yX9_fact RX9 cX9_fact 5 (some .int) 3 := ⟨w_1270, w_1268, w_1269, w_118, rfl, by decide +kernel, by decide +kernel, by decide +kernel⟩
def f9_piece (h : AH) (this : Nat) (p0 : Int32) (p1 : Int32) (p2 : Int32) (p3 : Int32) (p4 : Int32) (p5 : Int32) (p6 : Int32) (p7 : Int32) : Option (Int32 × AH) := (hObj 9 h this).bind fun _ => (fR 9 0 h this).bind fun x1 => (aI 0 h x1 (4 : Int32)).bind fun x5 => (if x5 = (90 : Int32) then some ((-1 : Int32), h) else (f9_in h p0.toInt64 (0 : Int64) (2 : Int64)).bind fun x17 => (if x17 = true then (f9_in h p1.toInt64 (0 : Int64) (99 : Int64)).bind fun x29 => (if x29 = true then (f9_in h p2.toInt64 (0 : Int64) (99 : Int64)).bind fun x41 => (if x41 = true then (f9_in h p3.toInt64 (0 : Int64) (99 : Int64)).bind fun x54 => (if x54 = true then (f9_in h p4.toInt64 (0 : Int64) (99 : Int64)).bind fun x67 => (if x67 = true then (f9_in h p5.toInt64 (0 : Int64) (99 : Int64)).bind fun x80 => (if x80 = true then (fR 9 0 h this).bind fun x94 => (aI 0 h x94 (1 : Int32)).bind fun x98 => (f9_in h p6.toInt64 (0 : Int64) ((((1 : Int32) <<< (x98 &&& 31)) - (1 : Int32)).toInt64)).bind fun x103 => (if x103 = true then (f9_in h p7.toInt64 (0 : Int64) (9999 : Int64)).bind fun x116 => (if x116 = true then (fR 9 0 h this).bind fun x130 => (aI 0 h x130 (4 : Int32)).bind fun x134 => (some ((1330 : Int32) + ((10 : Int32) * x134))).bind fun x137 => (fR 9 0 h this).bind fun x140 => (sI 0 h x140 x137 p0).bind fun h146 => (fR 9 0 h146 this).bind fun x148 => (sI 0 h146 x148 (x137 + (1 : Int32)) p1).bind fun h156 => (fR 9 0 h156 this).bind fun x158 => (sI 0 h156 x158 (x137 + (2 : Int32)) p2).bind fun h166 => (fR 9 0 h166 this).bind fun x168 => (sI 0 h166 x168 (x137 + (3 : Int32)) p3).bind fun h177 => (fR 9 0 h177 this).bind fun x179 => (sI 0 h177 x179 (x137 + (4 : Int32)) p4).bind fun h188 => (fR 9 0 h188 this).bind fun x190 => (sI 0 h188 x190 (x137 + (5 : Int32)) p5).bind fun h199 => (fR 9 0 h199 this).bind fun x201 => (sI 0 h199 x201 (x137 + (6 : Int32)) p6).bind fun h211 => (fR 9 0 h211 this).bind fun x213 => (sI 0 h211 x213 (x137 + (7 : Int32)) p7).bind fun h223 => (fR 9 0 h223 this).bind fun x225 => (fR 9 0 h223 this).bind fun x234 => (aI 0 h223 x234 (0 : Int32)).bind fun x238 => (sI 0 h223 x225 (x137 + (8 : Int32)) x238).bind fun h239 => (fR 9 0 h239 this).bind fun x241 => (sI 0 h239 x241 (x137 + (9 : Int32)) (0 : Int32)).bind fun h250 => (fR 9 0 h250 this).bind fun x252 => (aI 0 h250 x252 (4 : Int32)).bind fun x257 => (sI 0 h250 x252 (4 : Int32) (x257 + (1 : Int32))).bind fun h260 => (fR 9 0 h260 this).bind fun x262 => (aI 0 h260 x262 (4 : Int32)).bind fun x266 => some (x266 - (1 : Int32), h260) else some ((-1 : Int32), h)) else some ((-1 : Int32), h)) else some ((-1 : Int32), h)) else some ((-1 : Int32), h)) else some ((-1 : Int32), h)) else some ((-1 : Int32), h)) else some ((-1 : Int32), h)) else some ((-1 : Int32), h)))
theorem ob9_piece {h : AH} {this : Nat} {p0 : Int32} {p1 : Int32} {p2 : Int32} {p3 : Int32} {p4 : Int32} {p5 : Int32} {p6 : Int32} {p7 : Int32} {x : Int32 × AH} (e : f9_piece h this p0 p1 p2 p3 p4 p5 p6 p7 = some x) : ∃ fs, hObj 9 h this = some fs := by
  unfold f9_piece at e
  obtain ⟨fs, h1, -⟩ := bd e
  exact ⟨fs, h1⟩
set_option maxRecDepth 100000 in
theorem ct9_piece (l : Launch) (D : va_G) (tys : Tys) (base : Nat) (h : AH) (this : Nat) (p0 : Int32) (p1 : Int32) (p2 : Int32) (p3 : Int32) (p4 : Int32) (p5 : Int32) (p6 : Int32) (p7 : Int32) : Ct l D tys base yX9_piece cX9_piece 10 (some .int) 1 25 0 0 [.ref this, .int p0, .int p1, .int p2, .int p3, .int p4, .int p5, .int p6, .int p7] h (wI) (f9_piece h this p0 p1 p2 p3 p4 p5 p6 p7) := by
  refine Ct.intro (own := RX9) (L := [(0, .ref this), (1, .int p0), (2, .int p1), (3, .int p2), (4, .int p3), (5, .int p4), (6, .int p5), (7, .int p6), (8, .int p7)]) rfl (by decide) rfl (Nat.le_of_ble_eq_true rfl) fun κ hc hr hq hi hL => ?_
  have hn : ∀ i, i < 10 → i < κ.2.2.2.2.1 := fun i q => hL ▸ q
  unfold f9_piece
  refine v_obj ?_
  refine v_aload_n (i := 0) hc 0 rfl dX9_piece_0 rfl ?_
  refine v_getV hc kX9 0 (by decide) w_1131 rfl dX9_piece_1 (gR rfl fun x1 => ?_)
  refine v_iconst (x := (4 : Int32)) hc dX9_piece_4 zi_4 ?_
  refine v_iald hc dX9_piece_5 fun x5 => ?_
  refine v_bipush (x := (90 : Int32)) hc dX9_piece_6 zb_90 ?_
  refine v_icmp_eq hc 86 dX9_piece_8 rfl ?_ ?_
  · refine v_iconst (x := (-1 : Int32)) hc dX9_piece_86 zi_m1 ?_
    exact v_iret hc hq rfl rfl (Nat.le_of_ble_eq_true rfl) (Nat.le_of_ble_eq_true rfl) rfl dX9_piece_87
  · refine v_iload_n (i := 1) hc 1 rfl dX9_piece_11 rfl ?_
    refine v_i2l hc dX9_piece_12 ?_
    refine v_lconst (x := (0 : Int64)) hc dX9_piece_13 (by decide) ?_
    refine v_ldc2 (x := (2 : Int64)) hc w_1280 dX9_piece_14 ?_
    refine v_cB hc (m_S' (As := [.long p0.toInt64, .long (0 : Int64), .long (2 : Int64)]) (rest := []) 3 hc hr (fun l D tys base => ct9_in l D tys base h p0.toInt64 (0 : Int64) (2 : Int64)) s9_in w_1246 rfl ⟨Nat.le_of_ble_eq_true rfl, Nat.le_of_ble_eq_true rfl⟩ ⟨Nat.le_of_ble_eq_true rfl, Nat.le_of_ble_eq_true rfl⟩ (Nat.le_of_ble_eq_true rfl) dX9_piece_17) fun x17 => ?_
    refine v_ifb_eq hc 86 dX9_piece_20 rfl ?_ ?_
    · refine v_iconst (x := (-1 : Int32)) hc dX9_piece_86 zi_m1 ?_
      exact v_iret hc hq rfl rfl (Nat.le_of_ble_eq_true rfl) (Nat.le_of_ble_eq_true rfl) rfl dX9_piece_87
    · refine v_iload_n (i := 2) hc 2 rfl dX9_piece_23 rfl ?_
      refine v_i2l hc dX9_piece_24 ?_
      refine v_lconst (x := (0 : Int64)) hc dX9_piece_25 (by decide) ?_
      refine v_ldc2 (x := (99 : Int64)) hc w_1255 dX9_piece_26 ?_
      refine v_cB hc (m_S' (As := [.long p1.toInt64, .long (0 : Int64), .long (99 : Int64)]) (rest := []) 3 hc hr (fun l D tys base => ct9_in l D tys base h p1.toInt64 (0 : Int64) (99 : Int64)) s9_in w_1246 rfl ⟨Nat.le_of_ble_eq_true rfl, Nat.le_of_ble_eq_true rfl⟩ ⟨Nat.le_of_ble_eq_true rfl, Nat.le_of_ble_eq_true rfl⟩ (Nat.le_of_ble_eq_true rfl) dX9_piece_29) fun x29 => ?_
      refine v_ifb_eq hc 86 dX9_piece_32 rfl ?_ ?_
      · refine v_iconst (x := (-1 : Int32)) hc dX9_piece_86 zi_m1 ?_
        exact v_iret hc hq rfl rfl (Nat.le_of_ble_eq_true rfl) (Nat.le_of_ble_eq_true rfl) rfl dX9_piece_87
      · refine v_iload_n (i := 3) hc 3 rfl dX9_piece_35 rfl ?_
        refine v_i2l hc dX9_piece_36 ?_
        refine v_lconst (x := (0 : Int64)) hc dX9_piece_37 (by decide) ?_
        refine v_ldc2 (x := (99 : Int64)) hc w_1255 dX9_piece_38 ?_
        refine v_cB hc (m_S' (As := [.long p2.toInt64, .long (0 : Int64), .long (99 : Int64)]) (rest := []) 3 hc hr (fun l D tys base => ct9_in l D tys base h p2.toInt64 (0 : Int64) (99 : Int64)) s9_in w_1246 rfl ⟨Nat.le_of_ble_eq_true rfl, Nat.le_of_ble_eq_true rfl⟩ ⟨Nat.le_of_ble_eq_true rfl, Nat.le_of_ble_eq_true rfl⟩ (Nat.le_of_ble_eq_true rfl) dX9_piece_41) fun x41 => ?_
        refine v_ifb_eq hc 86 dX9_piece_44 rfl ?_ ?_
        · refine v_iconst (x := (-1 : Int32)) hc dX9_piece_86 zi_m1 ?_
          exact v_iret hc hq rfl rfl (Nat.le_of_ble_eq_true rfl) (Nat.le_of_ble_eq_true rfl) rfl dX9_piece_87
        · refine v_iload (i := 4) hc 4 rfl dX9_piece_47 ?_
          refine v_i2l hc dX9_piece_49 ?_
          refine v_lconst (x := (0 : Int64)) hc dX9_piece_50 (by decide) ?_
          refine v_ldc2 (x := (99 : Int64)) hc w_1255 dX9_piece_51 ?_
          refine v_cB hc (m_S' (As := [.long p3.toInt64, .long (0 : Int64), .long (99 : Int64)]) (rest := []) 3 hc hr (fun l D tys base => ct9_in l D tys base h p3.toInt64 (0 : Int64) (99 : Int64)) s9_in w_1246 rfl ⟨Nat.le_of_ble_eq_true rfl, Nat.le_of_ble_eq_true rfl⟩ ⟨Nat.le_of_ble_eq_true rfl, Nat.le_of_ble_eq_true rfl⟩ (Nat.le_of_ble_eq_true rfl) dX9_piece_54) fun x54 => ?_
          refine v_ifb_eq hc 86 dX9_piece_57 rfl ?_ ?_
          · refine v_iconst (x := (-1 : Int32)) hc dX9_piece_86 zi_m1 ?_
            exact v_iret hc hq rfl rfl (Nat.le_of_ble_eq_true rfl) (Nat.le_of_ble_eq_true rfl) rfl dX9_piece_87
          · refine v_iload (i := 5) hc 5 rfl dX9_piece_60 ?_
            refine v_i2l hc dX9_piece_62 ?_
            refine v_lconst (x := (0 : Int64)) hc dX9_piece_63 (by decide) ?_
            refine v_ldc2 (x := (99 : Int64)) hc w_1255 dX9_piece_64 ?_
            refine v_cB hc (m_S' (As := [.long p4.toInt64, .long (0 : Int64), .long (99 : Int64)]) (rest := []) 3 hc hr (fun l D tys base => ct9_in l D tys base h p4.toInt64 (0 : Int64) (99 : Int64)) s9_in w_1246 rfl ⟨Nat.le_of_ble_eq_true rfl, Nat.le_of_ble_eq_true rfl⟩ ⟨Nat.le_of_ble_eq_true rfl, Nat.le_of_ble_eq_true rfl⟩ (Nat.le_of_ble_eq_true rfl) dX9_piece_67) fun x67 => ?_
            refine v_ifb_eq hc 86 dX9_piece_70 rfl ?_ ?_
            · refine v_iconst (x := (-1 : Int32)) hc dX9_piece_86 zi_m1 ?_
              exact v_iret hc hq rfl rfl (Nat.le_of_ble_eq_true rfl) (Nat.le_of_ble_eq_true rfl) rfl dX9_piece_87
            · refine v_iload (i := 6) hc 6 rfl dX9_piece_73 ?_
              refine v_i2l hc dX9_piece_75 ?_
              refine v_lconst (x := (0 : Int64)) hc dX9_piece_76 (by decide) ?_
              refine v_ldc2 (x := (99 : Int64)) hc w_1255 dX9_piece_77 ?_
              refine v_cB hc (m_S' (As := [.long p5.toInt64, .long (0 : Int64), .long (99 : Int64)]) (rest := []) 3 hc hr (fun l D tys base => ct9_in l D tys base h p5.toInt64 (0 : Int64) (99 : Int64)) s9_in w_1246 rfl ⟨Nat.le_of_ble_eq_true rfl, Nat.le_of_ble_eq_true rfl⟩ ⟨Nat.le_of_ble_eq_true rfl, Nat.le_of_ble_eq_true rfl⟩ (Nat.le_of_ble_eq_true rfl) dX9_piece_80) fun x80 => ?_
              refine v_ifb_ne hc 88 dX9_piece_83 rfl ?_ ?_
              · refine v_iload (i := 7) hc 7 rfl dX9_piece_88 ?_
                refine v_i2l hc dX9_piece_90 ?_
                refine v_lconst (x := (0 : Int64)) hc dX9_piece_91 (by decide) ?_
                refine v_iconst (x := (1 : Int32)) hc dX9_piece_92 zi_1 ?_
                refine v_aload_n (i := 0) hc 0 rfl dX9_piece_93 rfl ?_
                refine v_getV hc kX9 0 (by decide) w_1131 rfl dX9_piece_94 (gR rfl fun x94 => ?_)
                refine v_iconst (x := (1 : Int32)) hc dX9_piece_97 zi_1 ?_
                refine v_iald hc dX9_piece_98 fun x98 => ?_
                refine v_ishl hc dX9_piece_99 ?_
                refine v_iconst (x := (1 : Int32)) hc dX9_piece_100 zi_1 ?_
                refine v_isub hc dX9_piece_101 ?_
                refine v_i2l hc dX9_piece_102 ?_
                refine v_cB hc (m_S' (As := [.long p6.toInt64, .long (0 : Int64), .long ((((1 : Int32) <<< (x98 &&& 31)) - (1 : Int32)).toInt64)]) (rest := []) 3 hc hr (fun l D tys base => ct9_in l D tys base h p6.toInt64 (0 : Int64) ((((1 : Int32) <<< (x98 &&& 31)) - (1 : Int32)).toInt64)) s9_in w_1246 rfl ⟨Nat.le_of_ble_eq_true rfl, Nat.le_of_ble_eq_true rfl⟩ ⟨Nat.le_of_ble_eq_true rfl, Nat.le_of_ble_eq_true rfl⟩ (Nat.le_of_ble_eq_true rfl) dX9_piece_103) fun x103 => ?_
                refine v_ifb_eq hc 122 dX9_piece_106 rfl ?_ ?_
                · refine v_iconst (x := (-1 : Int32)) hc dX9_piece_122 zi_m1 ?_
                  exact v_iret hc hq rfl rfl (Nat.le_of_ble_eq_true rfl) (Nat.le_of_ble_eq_true rfl) rfl dX9_piece_123
                · refine v_iload (i := 8) hc 8 rfl dX9_piece_109 ?_
                  refine v_i2l hc dX9_piece_111 ?_
                  refine v_lconst (x := (0 : Int64)) hc dX9_piece_112 (by decide) ?_
                  refine v_ldc2 (x := (9999 : Int64)) hc w_1281 dX9_piece_113 ?_
                  refine v_cB hc (m_S' (As := [.long p7.toInt64, .long (0 : Int64), .long (9999 : Int64)]) (rest := []) 3 hc hr (fun l D tys base => ct9_in l D tys base h p7.toInt64 (0 : Int64) (9999 : Int64)) s9_in w_1246 rfl ⟨Nat.le_of_ble_eq_true rfl, Nat.le_of_ble_eq_true rfl⟩ ⟨Nat.le_of_ble_eq_true rfl, Nat.le_of_ble_eq_true rfl⟩ (Nat.le_of_ble_eq_true rfl) dX9_piece_116) fun x116 => ?_
                  refine v_ifb_ne hc 124 dX9_piece_119 rfl ?_ ?_
                  · refine v_sipush (x := (1330 : Int32)) hc dX9_piece_124 zs_1330 ?_
                    refine v_bipush (x := (10 : Int32)) hc dX9_piece_127 zb_10 ?_
                    refine v_aload_n (i := 0) hc 0 rfl dX9_piece_129 rfl ?_
                    refine v_getV hc kX9 0 (by decide) w_1131 rfl dX9_piece_130 (gR rfl fun x130 => ?_)
                    refine v_iconst (x := (4 : Int32)) hc dX9_piece_133 zi_4 ?_
                    refine v_iald hc dX9_piece_134 fun x134 => ?_
                    refine v_imul hc dX9_piece_135 ?_
                    refine v_iadd hc dX9_piece_136 ?_
                    refine v_nmI fun x137 => ?_
                    refine v_istore (i := 9) (L' := [(9, .int x137), (0, .ref this), (1, .int p0), (2, .int p1), (3, .int p2), (4, .int p3), (5, .int p4), (6, .int p5), (7, .int p6), (8, .int p7)]) hc dX9_piece_137 (hn 9 (Nat.le_of_ble_eq_true rfl)) rfl ?_
                    refine v_aload_n (i := 0) hc 1 rfl dX9_piece_139 rfl ?_
                    refine v_getV hc kX9 0 (by decide) w_1131 rfl dX9_piece_140 (gR rfl fun x140 => ?_)
                    refine v_iload (i := 9) hc 0 rfl dX9_piece_143 ?_
                    refine v_iload_n (i := 1) hc 2 rfl dX9_piece_145 rfl ?_
                    refine v_iast hc dX9_piece_146 fun h146 => ?_
                    refine v_aload_n (i := 0) hc 1 rfl dX9_piece_147 rfl ?_
                    refine v_getV hc kX9 0 (by decide) w_1131 rfl dX9_piece_148 (gR rfl fun x148 => ?_)
                    refine v_iload (i := 9) hc 0 rfl dX9_piece_151 ?_
                    refine v_iconst (x := (1 : Int32)) hc dX9_piece_153 zi_1 ?_
                    refine v_iadd hc dX9_piece_154 ?_
                    refine v_iload_n (i := 2) hc 3 rfl dX9_piece_155 rfl ?_
                    refine v_iast hc dX9_piece_156 fun h156 => ?_
                    refine v_aload_n (i := 0) hc 1 rfl dX9_piece_157 rfl ?_
                    refine v_getV hc kX9 0 (by decide) w_1131 rfl dX9_piece_158 (gR rfl fun x158 => ?_)
                    refine v_iload (i := 9) hc 0 rfl dX9_piece_161 ?_
                    refine v_iconst (x := (2 : Int32)) hc dX9_piece_163 zi_2 ?_
                    refine v_iadd hc dX9_piece_164 ?_
                    refine v_iload_n (i := 3) hc 4 rfl dX9_piece_165 rfl ?_
                    refine v_iast hc dX9_piece_166 fun h166 => ?_
                    refine v_aload_n (i := 0) hc 1 rfl dX9_piece_167 rfl ?_
                    refine v_getV hc kX9 0 (by decide) w_1131 rfl dX9_piece_168 (gR rfl fun x168 => ?_)
                    refine v_iload (i := 9) hc 0 rfl dX9_piece_171 ?_
                    refine v_iconst (x := (3 : Int32)) hc dX9_piece_173 zi_3 ?_
                    refine v_iadd hc dX9_piece_174 ?_
                    refine v_iload (i := 4) hc 5 rfl dX9_piece_175 ?_
                    refine v_iast hc dX9_piece_177 fun h177 => ?_
                    refine v_aload_n (i := 0) hc 1 rfl dX9_piece_178 rfl ?_
                    refine v_getV hc kX9 0 (by decide) w_1131 rfl dX9_piece_179 (gR rfl fun x179 => ?_)
                    refine v_iload (i := 9) hc 0 rfl dX9_piece_182 ?_
                    refine v_iconst (x := (4 : Int32)) hc dX9_piece_184 zi_4 ?_
                    refine v_iadd hc dX9_piece_185 ?_
                    refine v_iload (i := 5) hc 6 rfl dX9_piece_186 ?_
                    refine v_iast hc dX9_piece_188 fun h188 => ?_
                    refine v_aload_n (i := 0) hc 1 rfl dX9_piece_189 rfl ?_
                    refine v_getV hc kX9 0 (by decide) w_1131 rfl dX9_piece_190 (gR rfl fun x190 => ?_)
                    refine v_iload (i := 9) hc 0 rfl dX9_piece_193 ?_
                    refine v_iconst (x := (5 : Int32)) hc dX9_piece_195 zi_5 ?_
                    refine v_iadd hc dX9_piece_196 ?_
                    refine v_iload (i := 6) hc 7 rfl dX9_piece_197 ?_
                    refine v_iast hc dX9_piece_199 fun h199 => ?_
                    refine v_aload_n (i := 0) hc 1 rfl dX9_piece_200 rfl ?_
                    refine v_getV hc kX9 0 (by decide) w_1131 rfl dX9_piece_201 (gR rfl fun x201 => ?_)
                    refine v_iload (i := 9) hc 0 rfl dX9_piece_204 ?_
                    refine v_bipush (x := (6 : Int32)) hc dX9_piece_206 zb_6 ?_
                    refine v_iadd hc dX9_piece_208 ?_
                    refine v_iload (i := 7) hc 8 rfl dX9_piece_209 ?_
                    refine v_iast hc dX9_piece_211 fun h211 => ?_
                    refine v_aload_n (i := 0) hc 1 rfl dX9_piece_212 rfl ?_
                    refine v_getV hc kX9 0 (by decide) w_1131 rfl dX9_piece_213 (gR rfl fun x213 => ?_)
                    refine v_iload (i := 9) hc 0 rfl dX9_piece_216 ?_
                    refine v_bipush (x := (7 : Int32)) hc dX9_piece_218 zb_7 ?_
                    refine v_iadd hc dX9_piece_220 ?_
                    refine v_iload (i := 8) hc 9 rfl dX9_piece_221 ?_
                    refine v_iast hc dX9_piece_223 fun h223 => ?_
                    refine v_aload_n (i := 0) hc 1 rfl dX9_piece_224 rfl ?_
                    refine v_getV hc kX9 0 (by decide) w_1131 rfl dX9_piece_225 (gR rfl fun x225 => ?_)
                    refine v_iload (i := 9) hc 0 rfl dX9_piece_228 ?_
                    refine v_bipush (x := (8 : Int32)) hc dX9_piece_230 zb_8 ?_
                    refine v_iadd hc dX9_piece_232 ?_
                    refine v_aload_n (i := 0) hc 1 rfl dX9_piece_233 rfl ?_
                    refine v_getV hc kX9 0 (by decide) w_1131 rfl dX9_piece_234 (gR rfl fun x234 => ?_)
                    refine v_iconst (x := (0 : Int32)) hc dX9_piece_237 zi_0 ?_
                    refine v_iald hc dX9_piece_238 fun x238 => ?_
                    refine v_iast hc dX9_piece_239 fun h239 => ?_
                    refine v_aload_n (i := 0) hc 1 rfl dX9_piece_240 rfl ?_
                    refine v_getV hc kX9 0 (by decide) w_1131 rfl dX9_piece_241 (gR rfl fun x241 => ?_)
                    refine v_iload (i := 9) hc 0 rfl dX9_piece_244 ?_
                    refine v_bipush (x := (9 : Int32)) hc dX9_piece_246 zb_9 ?_
                    refine v_iadd hc dX9_piece_248 ?_
                    refine v_iconst (x := (0 : Int32)) hc dX9_piece_249 zi_0 ?_
                    refine v_iast hc dX9_piece_250 fun h250 => ?_
                    refine v_aload_n (i := 0) hc 1 rfl dX9_piece_251 rfl ?_
                    refine v_getV hc kX9 0 (by decide) w_1131 rfl dX9_piece_252 (gR rfl fun x252 => ?_)
                    refine v_iconst (x := (4 : Int32)) hc dX9_piece_255 zi_4 ?_
                    refine v_dup2 hc dX9_piece_256 rfl rfl ?_
                    refine v_iald hc dX9_piece_257 fun x257 => ?_
                    refine v_iconst (x := (1 : Int32)) hc dX9_piece_258 zi_1 ?_
                    refine v_iadd hc dX9_piece_259 ?_
                    refine v_iast hc dX9_piece_260 fun h260 => ?_
                    refine v_aload_n (i := 0) hc 1 rfl dX9_piece_261 rfl ?_
                    refine v_getV hc kX9 0 (by decide) w_1131 rfl dX9_piece_262 (gR rfl fun x262 => ?_)
                    refine v_iconst (x := (4 : Int32)) hc dX9_piece_265 zi_4 ?_
                    refine v_iald hc dX9_piece_266 fun x266 => ?_
                    refine v_iconst (x := (1 : Int32)) hc dX9_piece_267 zi_1 ?_
                    refine v_isub hc dX9_piece_268 ?_
                    exact v_iret hc hq rfl rfl (Nat.le_of_ble_eq_true rfl) (Nat.le_of_ble_eq_true rfl) rfl dX9_piece_269
                  · refine v_iconst (x := (-1 : Int32)) hc dX9_piece_122 zi_m1 ?_
                    exact v_iret hc hq rfl rfl (Nat.le_of_ble_eq_true rfl) (Nat.le_of_ble_eq_true rfl) rfl dX9_piece_123
              · refine v_iconst (x := (-1 : Int32)) hc dX9_piece_86 zi_m1 ?_
                exact v_iret hc hq rfl rfl (Nat.le_of_ble_eq_true rfl) (Nat.le_of_ble_eq_true rfl) rfl dX9_piece_87
theorem s9_piece : YV yX9_piece RX9 cX9_piece 10 (some .int) 8 := ⟨w_1279, w_1277, w_1278, w_118, rfl, by decide +kernel, by decide +kernel, by decide +kernel⟩
def f9_isPiece (h : AH) (this : Nat) (p0 : Int32) : Option (Bool) := (hObj 9 h this).bind fun _ => (if p0 < 0 then some false else (fR 9 0 h this).bind fun x6 => (aI 0 h x6 (4 : Int32)).bind fun x10 => (if x10 ≤ p0 then some false else some true))
theorem ob9_isPiece {h : AH} {this : Nat} {p0 : Int32} {x : Bool} (e : f9_isPiece h this p0 = some x) : ∃ fs, hObj 9 h this = some fs := by
  unfold f9_isPiece at e
  obtain ⟨fs, h1, -⟩ := bd e
  exact ⟨fs, h1⟩
set_option maxRecDepth 100000 in
theorem ct9_isPiece (l : Launch) (D : va_G) (tys : Tys) (base : Nat) (h : AH) (this : Nat) (p0 : Int32) : Ct l D tys base yX9_isPiece cX9_isPiece 2 (some .boolean) 0 0 0 0 [.ref this, .int p0] h (rB h) (f9_isPiece h this p0) := by
  refine Ct.intro (own := RX9) (L := [(0, .ref this), (1, .int p0)]) rfl (by decide) rfl (Nat.le_of_ble_eq_true rfl) fun κ hc hr hq hi hL => ?_
  have hn : ∀ i, i < 2 → i < κ.2.2.2.2.1 := fun i q => hL ▸ q
  unfold f9_isPiece
  refine v_obj ?_
  refine v_iload_n (i := 1) hc 1 rfl dX9_isPiece_0 rfl ?_
  refine v_if_lt hc 18 dX9_isPiece_1 rfl ?_ ?_
  · refine v_iconst (x := (0 : Int32)) hc dX9_isPiece_18 zi_0 ?_
    exact v_iret (v := bI false) hc hq rfl (nar_b false) (Nat.le_of_ble_eq_true rfl) (Nat.le_of_ble_eq_true rfl) rfl dX9_isPiece_19
  · refine v_iload_n (i := 1) hc 1 rfl dX9_isPiece_4 rfl ?_
    refine v_aload_n (i := 0) hc 0 rfl dX9_isPiece_5 rfl ?_
    refine v_getV hc kX9 0 (by decide) w_1131 rfl dX9_isPiece_6 (gR rfl fun x6 => ?_)
    refine v_iconst (x := (4 : Int32)) hc dX9_isPiece_9 zi_4 ?_
    refine v_iald hc dX9_isPiece_10 fun x10 => ?_
    refine v_icmp_ge hc 18 dX9_isPiece_11 rfl ?_ ?_
    · refine v_iconst (x := (0 : Int32)) hc dX9_isPiece_18 zi_0 ?_
      exact v_iret (v := bI false) hc hq rfl (nar_b false) (Nat.le_of_ble_eq_true rfl) (Nat.le_of_ble_eq_true rfl) rfl dX9_isPiece_19
    · refine v_iconst (x := (1 : Int32)) hc dX9_isPiece_14 zi_1 ?_
      refine v_goto hc 19 dX9_isPiece_15 rfl ?_
      exact v_iret (v := bI true) hc hq rfl (nar_b true) (Nat.le_of_ble_eq_true rfl) (Nat.le_of_ble_eq_true rfl) rfl dX9_isPiece_19
theorem s9_isPiece : YV yX9_isPiece RX9 cX9_isPiece 2 (some .boolean) 1 := ⟨w_1289, w_1288, w_49, w_118, rfl, by decide +kernel, by decide +kernel, by decide +kernel⟩
def f9_hasDay_2 (h : AH) (v0 : Nat) (v1 : Int32) (v2 : Int32) : Nat → Int32 → Option (Bool)
  | 0, _ => none
  | n + 1, v3 => (fR 9 0 h v0).bind fun x4 => (aI 0 h x4 (5 : Int32)).bind fun x8 => (if x8 ≤ v3 then some false else (fR 9 0 h v0).bind fun x13 => (aI 0 h x13 ((2230 : Int32) + ((3 : Int32) * v3))).bind fun x23 => (if x23 = v1 then (fR 9 0 h v0).bind fun x29 => (aI 0 h x29 (((2230 : Int32) + ((3 : Int32) * v3)) + (1 : Int32))).bind fun x41 => (if x41 = v2 then some true else (some (v3 + (1 : Int32))).bind fun x48 => f9_hasDay_2 h v0 v1 v2 n x48) else (some (v3 + (1 : Int32))).bind fun x48 => f9_hasDay_2 h v0 v1 v2 n x48))
set_option maxRecDepth 100000 in
theorem vl9_hasDay_2 {κ : Kx} (hc : CX κ RX9 cX9_hasDay) (hr : RX κ ({ frames := 0, cells := 0, slots := 0, locals := 0 } : Room)) (hq : QX κ (some .boolean) 0 0) (hL : 4 = κ.2.2.2.2.1)  (h : AH) (v0 : Nat) (v1 : Int32) (v2 : Int32) : ∀ n (v3 : Int32), V κ (rB h) 0 0 2 [(0, .ref v0), (1, .int v1), (2, .int v2), (3, .int v3)] [] h (f9_hasDay_2 h v0 v1 v2 n v3) := by
  have hn : ∀ i, i < 4 → i < κ.2.2.2.2.1 := fun i q => hL ▸ q
  intro n
  induction n with
  | zero => intros; exact v_none
  | succ n ih =>
    intro v3
    rw [f9_hasDay_2.eq_2]
    refine v_iload_n (i := 3) hc 3 rfl dX9_hasDay_2 rfl ?_
    refine v_aload_n (i := 0) hc 0 rfl dX9_hasDay_3 rfl ?_
    refine v_getV hc kX9 0 (by decide) w_1131 rfl dX9_hasDay_4 (gR rfl fun x4 => ?_)
    refine v_iconst (x := (5 : Int32)) hc dX9_hasDay_7 zi_5 ?_
    refine v_iald hc dX9_hasDay_8 fun x8 => ?_
    refine v_icmp_ge hc 54 dX9_hasDay_9 rfl ?_ ?_
    · refine v_iconst (x := (0 : Int32)) hc dX9_hasDay_54 zi_0 ?_
      exact v_iret (v := bI false) hc hq rfl (nar_b false) (Nat.le_of_ble_eq_true rfl) (Nat.le_of_ble_eq_true rfl) rfl dX9_hasDay_55
    · refine v_aload_n (i := 0) hc 0 rfl dX9_hasDay_12 rfl ?_
      refine v_getV hc kX9 0 (by decide) w_1131 rfl dX9_hasDay_13 (gR rfl fun x13 => ?_)
      refine v_sipush (x := (2230 : Int32)) hc dX9_hasDay_16 zs_2230 ?_
      refine v_iconst (x := (3 : Int32)) hc dX9_hasDay_19 zi_3 ?_
      refine v_iload_n (i := 3) hc 3 rfl dX9_hasDay_20 rfl ?_
      refine v_imul hc dX9_hasDay_21 ?_
      refine v_iadd hc dX9_hasDay_22 ?_
      refine v_iald hc dX9_hasDay_23 fun x23 => ?_
      refine v_iload_n (i := 1) hc 1 rfl dX9_hasDay_24 rfl ?_
      refine v_icmp_ne hc 48 dX9_hasDay_25 rfl ?_ ?_
      · refine v_iincN (i := 3) (y := (1 : Int32)) (L' := fun z => [(3, .int z), (0, .ref v0), (1, .int v1), (2, .int v2)]) hc 3 rfl dX9_hasDay_48 zi_1 (hn 3 (Nat.le_of_ble_eq_true rfl)) (fun _ => rfl) fun x48 => ?_
        refine v_goto hc 2 dX9_hasDay_51 rfl ?_
        refine v_sub (L' := [(0, .ref v0), (1, .int v1), (2, .int v2), (3, .int x48)]) [1, 2, 3, 0] rfl ?_
        exact ih x48
      · refine v_aload_n (i := 0) hc 0 rfl dX9_hasDay_28 rfl ?_
        refine v_getV hc kX9 0 (by decide) w_1131 rfl dX9_hasDay_29 (gR rfl fun x29 => ?_)
        refine v_sipush (x := (2230 : Int32)) hc dX9_hasDay_32 zs_2230 ?_
        refine v_iconst (x := (3 : Int32)) hc dX9_hasDay_35 zi_3 ?_
        refine v_iload_n (i := 3) hc 3 rfl dX9_hasDay_36 rfl ?_
        refine v_imul hc dX9_hasDay_37 ?_
        refine v_iadd hc dX9_hasDay_38 ?_
        refine v_iconst (x := (1 : Int32)) hc dX9_hasDay_39 zi_1 ?_
        refine v_iadd hc dX9_hasDay_40 ?_
        refine v_iald hc dX9_hasDay_41 fun x41 => ?_
        refine v_iload_n (i := 2) hc 2 rfl dX9_hasDay_42 rfl ?_
        refine v_icmp_ne hc 48 dX9_hasDay_43 rfl ?_ ?_
        · refine v_iincN (i := 3) (y := (1 : Int32)) (L' := fun z => [(3, .int z), (0, .ref v0), (1, .int v1), (2, .int v2)]) hc 3 rfl dX9_hasDay_48 zi_1 (hn 3 (Nat.le_of_ble_eq_true rfl)) (fun _ => rfl) fun x48 => ?_
          refine v_goto hc 2 dX9_hasDay_51 rfl ?_
          refine v_sub (L' := [(0, .ref v0), (1, .int v1), (2, .int v2), (3, .int x48)]) [1, 2, 3, 0] rfl ?_
          exact ih x48
        · refine v_iconst (x := (1 : Int32)) hc dX9_hasDay_46 zi_1 ?_
          exact v_iret (v := bI true) hc hq rfl (nar_b true) (Nat.le_of_ble_eq_true rfl) (Nat.le_of_ble_eq_true rfl) rfl dX9_hasDay_47
def f9_hasDay (h : AH) (this : Nat) (p0 : Int32) (p1 : Int32) : Option (Bool) := (hObj 9 h this).bind fun _ => f9_hasDay_2 h this p0 p1 FU (0 : Int32)
theorem ob9_hasDay {h : AH} {this : Nat} {p0 : Int32} {p1 : Int32} {x : Bool} (e : f9_hasDay h this p0 p1 = some x) : ∃ fs, hObj 9 h this = some fs := by
  unfold f9_hasDay at e
  obtain ⟨fs, h1, -⟩ := bd e
  exact ⟨fs, h1⟩
set_option maxRecDepth 100000 in
theorem ct9_hasDay (l : Launch) (D : va_G) (tys : Tys) (base : Nat) (h : AH) (this : Nat) (p0 : Int32) (p1 : Int32) : Ct l D tys base yX9_hasDay cX9_hasDay 4 (some .boolean) 0 0 0 0 [.ref this, .int p0, .int p1] h (rB h) (f9_hasDay h this p0 p1) := by
  refine Ct.intro (own := RX9) (L := [(0, .ref this), (1, .int p0), (2, .int p1)]) rfl (by decide) rfl (Nat.le_of_ble_eq_true rfl) fun κ hc hr hq hi hL => ?_
  have hn : ∀ i, i < 4 → i < κ.2.2.2.2.1 := fun i q => hL ▸ q
  unfold f9_hasDay
  refine v_obj ?_
  refine v_iconst (x := (0 : Int32)) hc dX9_hasDay_0 zi_0 ?_
  refine v_istore_n (i := 3) (L' := [(3, .int (0 : Int32)), (0, .ref this), (1, .int p0), (2, .int p1)]) hc dX9_hasDay_1 rfl (hn 3 (Nat.le_of_ble_eq_true rfl)) rfl ?_
  refine v_sub (L' := [(0, .ref this), (1, .int p0), (2, .int p1), (3, .int (0 : Int32))]) [1, 2, 3, 0] rfl ?_
  exact vl9_hasDay_2 hc hr hq hL h this p0 p1 FU (0 : Int32)
theorem s9_hasDay : YV yX9_hasDay RX9 cX9_hasDay 4 (some .boolean) 2 := ⟨w_1293, w_1292, w_50, w_118, rfl, by decide +kernel, by decide +kernel, by decide +kernel⟩
def f9_adds (h : AH) (this : Nat) (p0 : Int32) (p1 : Int32) (p2 : Int32) : Option (AH) := (hObj 9 h this).bind fun _ => (fR 9 0 h this).bind fun x5 => (aI 0 h x5 (5 : Int32)).bind fun x9 => (some ((2230 : Int32) + ((3 : Int32) * x9))).bind fun x12 => (fR 9 0 h this).bind fun x15 => (sI 0 h x15 x12 p0).bind fun h21 => (fR 9 0 h21 this).bind fun x23 => (sI 0 h21 x23 (x12 + (1 : Int32)) p1).bind fun h31 => (fR 9 0 h31 this).bind fun x33 => (sI 0 h31 x33 (x12 + (2 : Int32)) p2).bind fun h41 => (fR 9 0 h41 this).bind fun x43 => (aI 0 h41 x43 (5 : Int32)).bind fun x48 => (sI 0 h41 x43 (5 : Int32) (x48 + (1 : Int32))).bind fun h51 => some h51
theorem ob9_adds {h : AH} {this : Nat} {p0 : Int32} {p1 : Int32} {p2 : Int32} {x : AH} (e : f9_adds h this p0 p1 p2 = some x) : ∃ fs, hObj 9 h this = some fs := by
  unfold f9_adds at e
  obtain ⟨fs, h1, -⟩ := bd e
  exact ⟨fs, h1⟩
set_option maxRecDepth 100000 in
theorem ct9_adds (l : Launch) (D : va_G) (tys : Tys) (base : Nat) (h : AH) (this : Nat) (p0 : Int32) (p1 : Int32) (p2 : Int32) : Ct l D tys base yX9_adds cX9_adds 5 none 0 0 0 0 [.ref this, .int p0, .int p1, .int p2] h (wV) (f9_adds h this p0 p1 p2) := by
  refine Ct.intro (own := RX9) (L := [(0, .ref this), (1, .int p0), (2, .int p1), (3, .int p2)]) rfl (by decide) rfl (Nat.le_of_ble_eq_true rfl) fun κ hc hr hq hi hL => ?_
  have hn : ∀ i, i < 5 → i < κ.2.2.2.2.1 := fun i q => hL ▸ q
  unfold f9_adds
  refine v_obj ?_
  refine v_sipush (x := (2230 : Int32)) hc dX9_adds_0 zs_2230 ?_
  refine v_iconst (x := (3 : Int32)) hc dX9_adds_3 zi_3 ?_
  refine v_aload_n (i := 0) hc 0 rfl dX9_adds_4 rfl ?_
  refine v_getV hc kX9 0 (by decide) w_1131 rfl dX9_adds_5 (gR rfl fun x5 => ?_)
  refine v_iconst (x := (5 : Int32)) hc dX9_adds_8 zi_5 ?_
  refine v_iald hc dX9_adds_9 fun x9 => ?_
  refine v_imul hc dX9_adds_10 ?_
  refine v_iadd hc dX9_adds_11 ?_
  refine v_nmI fun x12 => ?_
  refine v_istore (i := 4) (L' := [(4, .int x12), (0, .ref this), (1, .int p0), (2, .int p1), (3, .int p2)]) hc dX9_adds_12 (hn 4 (Nat.le_of_ble_eq_true rfl)) rfl ?_
  refine v_aload_n (i := 0) hc 1 rfl dX9_adds_14 rfl ?_
  refine v_getV hc kX9 0 (by decide) w_1131 rfl dX9_adds_15 (gR rfl fun x15 => ?_)
  refine v_iload (i := 4) hc 0 rfl dX9_adds_18 ?_
  refine v_iload_n (i := 1) hc 2 rfl dX9_adds_20 rfl ?_
  refine v_iast hc dX9_adds_21 fun h21 => ?_
  refine v_aload_n (i := 0) hc 1 rfl dX9_adds_22 rfl ?_
  refine v_getV hc kX9 0 (by decide) w_1131 rfl dX9_adds_23 (gR rfl fun x23 => ?_)
  refine v_iload (i := 4) hc 0 rfl dX9_adds_26 ?_
  refine v_iconst (x := (1 : Int32)) hc dX9_adds_28 zi_1 ?_
  refine v_iadd hc dX9_adds_29 ?_
  refine v_iload_n (i := 2) hc 3 rfl dX9_adds_30 rfl ?_
  refine v_iast hc dX9_adds_31 fun h31 => ?_
  refine v_aload_n (i := 0) hc 1 rfl dX9_adds_32 rfl ?_
  refine v_getV hc kX9 0 (by decide) w_1131 rfl dX9_adds_33 (gR rfl fun x33 => ?_)
  refine v_iload (i := 4) hc 0 rfl dX9_adds_36 ?_
  refine v_iconst (x := (2 : Int32)) hc dX9_adds_38 zi_2 ?_
  refine v_iadd hc dX9_adds_39 ?_
  refine v_iload_n (i := 3) hc 4 rfl dX9_adds_40 rfl ?_
  refine v_iast hc dX9_adds_41 fun h41 => ?_
  refine v_aload_n (i := 0) hc 1 rfl dX9_adds_42 rfl ?_
  refine v_getV hc kX9 0 (by decide) w_1131 rfl dX9_adds_43 (gR rfl fun x43 => ?_)
  refine v_iconst (x := (5 : Int32)) hc dX9_adds_46 zi_5 ?_
  refine v_dup2 hc dX9_adds_47 rfl rfl ?_
  refine v_iald hc dX9_adds_48 fun x48 => ?_
  refine v_iconst (x := (1 : Int32)) hc dX9_adds_49 zi_1 ?_
  refine v_iadd hc dX9_adds_50 ?_
  refine v_iast hc dX9_adds_51 fun h51 => ?_
  exact v_vret hc hq (Nat.le_of_ble_eq_true rfl) (Nat.le_of_ble_eq_true rfl) rfl dX9_adds_52
theorem s9_adds : YV yX9_adds RX9 cX9_adds 5 none 3 := ⟨w_1297, w_1296, w_51, w_118, rfl, by decide +kernel, by decide +kernel, by decide +kernel⟩
def f9_page (h : AH) (this : Nat) (p0 : Int32) (p1 : Int32) (p2 : Int32) : Option (Int32 × AH) := (hObj 9 h this).bind fun _ => (fR 9 0 h this).bind fun x1 => (aI 0 h x1 (5 : Int32)).bind fun x5 => (if x5 = (400 : Int32) then some ((-1 : Int32), h) else (f9_isPiece h this p0).bind fun x14 => (if x14 = true then (f9_isDay h p1).bind fun x21 => (if x21 = true then (f9_in h p2.toInt64 (0 : Int64) (99 : Int64)).bind fun x33 => (if x33 = true then (f9_hasDay h this p0 p1).bind fun x42 => (if x42 = true then some ((-1 : Int32), h) else (f9_adds h this p0 p1 p2).bind fun x54 => (fR 9 0 x54 this).bind fun x58 => (aI 0 x54 x58 (5 : Int32)).bind fun x62 => some (x62, x54)) else some ((-1 : Int32), h)) else some ((-1 : Int32), h)) else some ((-1 : Int32), h)))
theorem ob9_page {h : AH} {this : Nat} {p0 : Int32} {p1 : Int32} {p2 : Int32} {x : Int32 × AH} (e : f9_page h this p0 p1 p2 = some x) : ∃ fs, hObj 9 h this = some fs := by
  unfold f9_page at e
  obtain ⟨fs, h1, -⟩ := bd e
  exact ⟨fs, h1⟩
set_option maxRecDepth 100000 in
theorem ct9_page (l : Launch) (D : va_G) (tys : Tys) (base : Nat) (h : AH) (this : Nat) (p0 : Int32) (p1 : Int32) (p2 : Int32) : Ct l D tys base yX9_page cX9_page 4 (some .int) 1 25 0 0 [.ref this, .int p0, .int p1, .int p2] h (wI) (f9_page h this p0 p1 p2) := by
  refine Ct.intro (own := RX9) (L := [(0, .ref this), (1, .int p0), (2, .int p1), (3, .int p2)]) rfl (by decide) rfl (Nat.le_of_ble_eq_true rfl) fun κ hc hr hq hi hL => ?_
  have hn : ∀ i, i < 4 → i < κ.2.2.2.2.1 := fun i q => hL ▸ q
  unfold f9_page
  refine v_obj ?_
  refine v_aload_n (i := 0) hc 0 rfl dX9_page_0 rfl ?_
  refine v_getV hc kX9 0 (by decide) w_1131 rfl dX9_page_1 (gR rfl fun x1 => ?_)
  refine v_iconst (x := (5 : Int32)) hc dX9_page_4 zi_5 ?_
  refine v_iald hc dX9_page_5 fun x5 => ?_
  refine v_sipush (x := (400 : Int32)) hc dX9_page_6 zs_400 ?_
  refine v_icmp_eq hc 48 dX9_page_9 rfl ?_ ?_
  · refine v_iconst (x := (-1 : Int32)) hc dX9_page_48 zi_m1 ?_
    exact v_iret hc hq rfl rfl (Nat.le_of_ble_eq_true rfl) (Nat.le_of_ble_eq_true rfl) rfl dX9_page_49
  · refine v_aload_n (i := 0) hc 0 rfl dX9_page_12 rfl ?_
    refine v_iload_n (i := 1) hc 1 rfl dX9_page_13 rfl ?_
    refine v_cB hc (m_V' (As := [.int p0]) (b := this) (rest := []) 1 hc hr (fun l D tys base => ct9_isPiece l D tys base h this p0) (fun x hx => ob9_isPiece hx) rfl s9_isPiece w_1286 rfl ⟨Nat.le_of_ble_eq_true rfl, Nat.le_of_ble_eq_true rfl⟩ ⟨Nat.le_of_ble_eq_true rfl, Nat.le_of_ble_eq_true rfl⟩ (Nat.le_of_ble_eq_true rfl) dX9_page_14) fun x14 => ?_
    refine v_ifb_eq hc 48 dX9_page_17 rfl ?_ ?_
    · refine v_iconst (x := (-1 : Int32)) hc dX9_page_48 zi_m1 ?_
      exact v_iret hc hq rfl rfl (Nat.le_of_ble_eq_true rfl) (Nat.le_of_ble_eq_true rfl) rfl dX9_page_49
    · refine v_iload_n (i := 2) hc 2 rfl dX9_page_20 rfl ?_
      refine v_cB hc (m_S' (As := [.int p1]) (rest := []) 1 hc hr (fun l D tys base => ct9_isDay l D tys base h p1) s9_isDay w_1260 rfl ⟨Nat.le_of_ble_eq_true rfl, Nat.le_of_ble_eq_true rfl⟩ ⟨Nat.le_of_ble_eq_true rfl, Nat.le_of_ble_eq_true rfl⟩ (Nat.le_of_ble_eq_true rfl) dX9_page_21) fun x21 => ?_
      refine v_ifb_eq hc 48 dX9_page_24 rfl ?_ ?_
      · refine v_iconst (x := (-1 : Int32)) hc dX9_page_48 zi_m1 ?_
        exact v_iret hc hq rfl rfl (Nat.le_of_ble_eq_true rfl) (Nat.le_of_ble_eq_true rfl) rfl dX9_page_49
      · refine v_iload_n (i := 3) hc 3 rfl dX9_page_27 rfl ?_
        refine v_i2l hc dX9_page_28 ?_
        refine v_lconst (x := (0 : Int64)) hc dX9_page_29 (by decide) ?_
        refine v_ldc2 (x := (99 : Int64)) hc w_1255 dX9_page_30 ?_
        refine v_cB hc (m_S' (As := [.long p2.toInt64, .long (0 : Int64), .long (99 : Int64)]) (rest := []) 3 hc hr (fun l D tys base => ct9_in l D tys base h p2.toInt64 (0 : Int64) (99 : Int64)) s9_in w_1246 rfl ⟨Nat.le_of_ble_eq_true rfl, Nat.le_of_ble_eq_true rfl⟩ ⟨Nat.le_of_ble_eq_true rfl, Nat.le_of_ble_eq_true rfl⟩ (Nat.le_of_ble_eq_true rfl) dX9_page_33) fun x33 => ?_
        refine v_ifb_eq hc 48 dX9_page_36 rfl ?_ ?_
        · refine v_iconst (x := (-1 : Int32)) hc dX9_page_48 zi_m1 ?_
          exact v_iret hc hq rfl rfl (Nat.le_of_ble_eq_true rfl) (Nat.le_of_ble_eq_true rfl) rfl dX9_page_49
        · refine v_aload_n (i := 0) hc 0 rfl dX9_page_39 rfl ?_
          refine v_iload_n (i := 1) hc 1 rfl dX9_page_40 rfl ?_
          refine v_iload_n (i := 2) hc 2 rfl dX9_page_41 rfl ?_
          refine v_cB hc (m_V' (As := [.int p0, .int p1]) (b := this) (rest := []) 2 hc hr (fun l D tys base => ct9_hasDay l D tys base h this p0 p1) (fun x hx => ob9_hasDay hx) rfl s9_hasDay w_1290 rfl ⟨Nat.le_of_ble_eq_true rfl, Nat.le_of_ble_eq_true rfl⟩ ⟨Nat.le_of_ble_eq_true rfl, Nat.le_of_ble_eq_true rfl⟩ (Nat.le_of_ble_eq_true rfl) dX9_page_42) fun x42 => ?_
          refine v_ifb_eq hc 50 dX9_page_45 rfl ?_ ?_
          · refine v_aload_n (i := 0) hc 0 rfl dX9_page_50 rfl ?_
            refine v_iload_n (i := 1) hc 1 rfl dX9_page_51 rfl ?_
            refine v_iload_n (i := 2) hc 2 rfl dX9_page_52 rfl ?_
            refine v_iload_n (i := 3) hc 3 rfl dX9_page_53 rfl ?_
            refine v_cV hc (m_V' (As := [.int p0, .int p1, .int p2]) (b := this) (rest := []) 3 hc hr (fun l D tys base => ct9_adds l D tys base h this p0 p1 p2) (fun x hx => ob9_adds hx) rfl s9_adds w_1294 rfl ⟨Nat.le_of_ble_eq_true rfl, Nat.le_of_ble_eq_true rfl⟩ ⟨Nat.le_of_ble_eq_true rfl, Nat.le_of_ble_eq_true rfl⟩ (Nat.le_of_ble_eq_true rfl) dX9_page_54) fun x54 => ?_
            refine v_aload_n (i := 0) hc 0 rfl dX9_page_57 rfl ?_
            refine v_getV hc kX9 0 (by decide) w_1131 rfl dX9_page_58 (gR rfl fun x58 => ?_)
            refine v_iconst (x := (5 : Int32)) hc dX9_page_61 zi_5 ?_
            refine v_iald hc dX9_page_62 fun x62 => ?_
            exact v_iret hc hq rfl rfl (Nat.le_of_ble_eq_true rfl) (Nat.le_of_ble_eq_true rfl) rfl dX9_page_63
          · refine v_iconst (x := (-1 : Int32)) hc dX9_page_48 zi_m1 ?_
            exact v_iret hc hq rfl rfl (Nat.le_of_ble_eq_true rfl) (Nat.le_of_ble_eq_true rfl) rfl dX9_page_49
theorem s9_page : YV yX9_page RX9 cX9_page 4 (some .int) 3 := ⟨w_1285, w_1283, w_1284, w_118, rfl, by decide +kernel, by decide +kernel, by decide +kernel⟩
def f9_isWrong (h : AH) (this : Nat) (p0 : Int32) : Option (Bool) := (hObj 9 h this).bind fun _ => (fR 9 0 h this).bind fun x2 => (aI 0 h x2 (((2230 : Int32) + ((3 : Int32) * p0)) + (1 : Int32))).bind fun x14 => (f9_truthOf h this x14).bind fun x15 => (if x15 = (-1 : Int32) then some false else (fR 9 0 h this).bind fun x26 => (aI 0 h x26 (((2230 : Int32) + ((3 : Int32) * p0)) + (2 : Int32))).bind fun x38 => (if x15 = x38 then some false else some true))
theorem ob9_isWrong {h : AH} {this : Nat} {p0 : Int32} {x : Bool} (e : f9_isWrong h this p0 = some x) : ∃ fs, hObj 9 h this = some fs := by
  unfold f9_isWrong at e
  obtain ⟨fs, h1, -⟩ := bd e
  exact ⟨fs, h1⟩
set_option maxRecDepth 100000 in
theorem ct9_isWrong (l : Launch) (D : va_G) (tys : Tys) (base : Nat) (h : AH) (this : Nat) (p0 : Int32) : Ct l D tys base yX9_isWrong cX9_isWrong 3 (some .boolean) 1 22 0 0 [.ref this, .int p0] h (rB h) (f9_isWrong h this p0) := by
  refine Ct.intro (own := RX9) (L := [(0, .ref this), (1, .int p0)]) rfl (by decide) rfl (Nat.le_of_ble_eq_true rfl) fun κ hc hr hq hi hL => ?_
  have hn : ∀ i, i < 3 → i < κ.2.2.2.2.1 := fun i q => hL ▸ q
  unfold f9_isWrong
  refine v_obj ?_
  refine v_aload_n (i := 0) hc 0 rfl dX9_isWrong_0 rfl ?_
  refine v_aload_n (i := 0) hc 0 rfl dX9_isWrong_1 rfl ?_
  refine v_getV hc kX9 0 (by decide) w_1131 rfl dX9_isWrong_2 (gR rfl fun x2 => ?_)
  refine v_sipush (x := (2230 : Int32)) hc dX9_isWrong_5 zs_2230 ?_
  refine v_iconst (x := (3 : Int32)) hc dX9_isWrong_8 zi_3 ?_
  refine v_iload_n (i := 1) hc 1 rfl dX9_isWrong_9 rfl ?_
  refine v_imul hc dX9_isWrong_10 ?_
  refine v_iadd hc dX9_isWrong_11 ?_
  refine v_iconst (x := (1 : Int32)) hc dX9_isWrong_12 zi_1 ?_
  refine v_iadd hc dX9_isWrong_13 ?_
  refine v_iald hc dX9_isWrong_14 fun x14 => ?_
  refine v_cI hc (m_V' (As := [.int x14]) (b := this) (rest := []) 1 hc hr (fun l D tys base => ct9_truthOf l D tys base h this x14) (fun x hx => ob9_truthOf hx) rfl s9_truthOf w_1263 rfl ⟨Nat.le_of_ble_eq_true rfl, Nat.le_of_ble_eq_true rfl⟩ ⟨Nat.le_of_ble_eq_true rfl, Nat.le_of_ble_eq_true rfl⟩ (Nat.le_of_ble_eq_true rfl) dX9_isWrong_15) fun x15 => ?_
  refine v_istore_n (i := 2) (L' := [(2, .int x15), (0, .ref this), (1, .int p0)]) hc dX9_isWrong_18 rfl (hn 2 (Nat.le_of_ble_eq_true rfl)) rfl ?_
  refine v_iload_n (i := 2) hc 0 rfl dX9_isWrong_19 rfl ?_
  refine v_iconst (x := (-1 : Int32)) hc dX9_isWrong_20 zi_m1 ?_
  refine v_icmp_eq hc 46 dX9_isWrong_21 rfl ?_ ?_
  · refine v_iconst (x := (0 : Int32)) hc dX9_isWrong_46 zi_0 ?_
    exact v_iret (v := bI false) hc hq rfl (nar_b false) (Nat.le_of_ble_eq_true rfl) (Nat.le_of_ble_eq_true rfl) rfl dX9_isWrong_47
  · refine v_iload_n (i := 2) hc 0 rfl dX9_isWrong_24 rfl ?_
    refine v_aload_n (i := 0) hc 1 rfl dX9_isWrong_25 rfl ?_
    refine v_getV hc kX9 0 (by decide) w_1131 rfl dX9_isWrong_26 (gR rfl fun x26 => ?_)
    refine v_sipush (x := (2230 : Int32)) hc dX9_isWrong_29 zs_2230 ?_
    refine v_iconst (x := (3 : Int32)) hc dX9_isWrong_32 zi_3 ?_
    refine v_iload_n (i := 1) hc 2 rfl dX9_isWrong_33 rfl ?_
    refine v_imul hc dX9_isWrong_34 ?_
    refine v_iadd hc dX9_isWrong_35 ?_
    refine v_iconst (x := (2 : Int32)) hc dX9_isWrong_36 zi_2 ?_
    refine v_iadd hc dX9_isWrong_37 ?_
    refine v_iald hc dX9_isWrong_38 fun x38 => ?_
    refine v_icmp_eq hc 46 dX9_isWrong_39 rfl ?_ ?_
    · refine v_iconst (x := (0 : Int32)) hc dX9_isWrong_46 zi_0 ?_
      exact v_iret (v := bI false) hc hq rfl (nar_b false) (Nat.le_of_ble_eq_true rfl) (Nat.le_of_ble_eq_true rfl) rfl dX9_isWrong_47
    · refine v_iconst (x := (1 : Int32)) hc dX9_isWrong_42 zi_1 ?_
      refine v_goto hc 47 dX9_isWrong_43 rfl ?_
      exact v_iret (v := bI true) hc hq rfl (nar_b true) (Nat.le_of_ble_eq_true rfl) (Nat.le_of_ble_eq_true rfl) rfl dX9_isWrong_47
theorem s9_isWrong : YV yX9_isWrong RX9 cX9_isWrong 3 (some .boolean) 1 := ⟨w_1310, w_1309, w_53, w_118, rfl, by decide +kernel, by decide +kernel, by decide +kernel⟩
def f9_isShared (h : AH) (this : Nat) (p0 : Int32) (p1 : Int32) : Option (Bool) := (hObj 9 h this).bind fun _ => (f9_isWrong h this p0).bind fun x2 => (if x2 = true then (fR 9 0 h this).bind fun x11 => (aI 0 h x11 (((2230 : Int32) + ((3 : Int32) * p0)) + (1 : Int32))).bind fun x23 => (f9_factOf h this p1 x23).bind fun x24 => (fR 9 0 h this).bind fun x28 => (aI 0 h x28 (((2230 : Int32) + ((3 : Int32) * p0)) + (2 : Int32))).bind fun x40 => (if x24 = x40 then some true else some false) else some false)
theorem ob9_isShared {h : AH} {this : Nat} {p0 : Int32} {p1 : Int32} {x : Bool} (e : f9_isShared h this p0 p1 = some x) : ∃ fs, hObj 9 h this = some fs := by
  unfold f9_isShared at e
  obtain ⟨fs, h1, -⟩ := bd e
  exact ⟨fs, h1⟩
set_option maxRecDepth 100000 in
theorem ct9_isShared (l : Launch) (D : va_G) (tys : Tys) (base : Nat) (h : AH) (this : Nat) (p0 : Int32) (p1 : Int32) : Ct l D tys base yX9_isShared cX9_isShared 3 (some .boolean) 2 44 0 0 [.ref this, .int p0, .int p1] h (rB h) (f9_isShared h this p0 p1) := by
  refine Ct.intro (own := RX9) (L := [(0, .ref this), (1, .int p0), (2, .int p1)]) rfl (by decide) rfl (Nat.le_of_ble_eq_true rfl) fun κ hc hr hq hi hL => ?_
  have hn : ∀ i, i < 3 → i < κ.2.2.2.2.1 := fun i q => hL ▸ q
  unfold f9_isShared
  refine v_obj ?_
  refine v_aload_n (i := 0) hc 0 rfl dX9_isShared_0 rfl ?_
  refine v_iload_n (i := 1) hc 1 rfl dX9_isShared_1 rfl ?_
  refine v_cB hc (m_V' (As := [.int p0]) (b := this) (rest := []) 1 hc hr (fun l D tys base => ct9_isWrong l D tys base h this p0) (fun x hx => ob9_isWrong hx) rfl s9_isWrong w_1307 rfl ⟨Nat.le_of_ble_eq_true rfl, Nat.le_of_ble_eq_true rfl⟩ ⟨Nat.le_of_ble_eq_true rfl, Nat.le_of_ble_eq_true rfl⟩ (Nat.le_of_ble_eq_true rfl) dX9_isShared_2) fun x2 => ?_
  refine v_ifb_eq hc 48 dX9_isShared_5 rfl ?_ ?_
  · refine v_iconst (x := (0 : Int32)) hc dX9_isShared_48 zi_0 ?_
    exact v_iret (v := bI false) hc hq rfl (nar_b false) (Nat.le_of_ble_eq_true rfl) (Nat.le_of_ble_eq_true rfl) rfl dX9_isShared_49
  · refine v_aload_n (i := 0) hc 0 rfl dX9_isShared_8 rfl ?_
    refine v_iload_n (i := 2) hc 2 rfl dX9_isShared_9 rfl ?_
    refine v_aload_n (i := 0) hc 0 rfl dX9_isShared_10 rfl ?_
    refine v_getV hc kX9 0 (by decide) w_1131 rfl dX9_isShared_11 (gR rfl fun x11 => ?_)
    refine v_sipush (x := (2230 : Int32)) hc dX9_isShared_14 zs_2230 ?_
    refine v_iconst (x := (3 : Int32)) hc dX9_isShared_17 zi_3 ?_
    refine v_iload_n (i := 1) hc 1 rfl dX9_isShared_18 rfl ?_
    refine v_imul hc dX9_isShared_19 ?_
    refine v_iadd hc dX9_isShared_20 ?_
    refine v_iconst (x := (1 : Int32)) hc dX9_isShared_21 zi_1 ?_
    refine v_iadd hc dX9_isShared_22 ?_
    refine v_iald hc dX9_isShared_23 fun x23 => ?_
    refine v_cI hc (m_V' (As := [.int p1, .int x23]) (b := this) (rest := []) 2 hc hr (fun l D tys base => ct9_factOf l D tys base h this p1 x23) (fun x hx => ob9_factOf hx) rfl s9_factOf w_1272 rfl ⟨Nat.le_of_ble_eq_true rfl, Nat.le_of_ble_eq_true rfl⟩ ⟨Nat.le_of_ble_eq_true rfl, Nat.le_of_ble_eq_true rfl⟩ (Nat.le_of_ble_eq_true rfl) dX9_isShared_24) fun x24 => ?_
    refine v_aload_n (i := 0) hc 0 rfl dX9_isShared_27 rfl ?_
    refine v_getV hc kX9 0 (by decide) w_1131 rfl dX9_isShared_28 (gR rfl fun x28 => ?_)
    refine v_sipush (x := (2230 : Int32)) hc dX9_isShared_31 zs_2230 ?_
    refine v_iconst (x := (3 : Int32)) hc dX9_isShared_34 zi_3 ?_
    refine v_iload_n (i := 1) hc 1 rfl dX9_isShared_35 rfl ?_
    refine v_imul hc dX9_isShared_36 ?_
    refine v_iadd hc dX9_isShared_37 ?_
    refine v_iconst (x := (2 : Int32)) hc dX9_isShared_38 zi_2 ?_
    refine v_iadd hc dX9_isShared_39 ?_
    refine v_iald hc dX9_isShared_40 fun x40 => ?_
    refine v_icmp_ne hc 48 dX9_isShared_41 rfl ?_ ?_
    · refine v_iconst (x := (0 : Int32)) hc dX9_isShared_48 zi_0 ?_
      exact v_iret (v := bI false) hc hq rfl (nar_b false) (Nat.le_of_ble_eq_true rfl) (Nat.le_of_ble_eq_true rfl) rfl dX9_isShared_49
    · refine v_iconst (x := (1 : Int32)) hc dX9_isShared_44 zi_1 ?_
      refine v_goto hc 49 dX9_isShared_45 rfl ?_
      exact v_iret (v := bI true) hc hq rfl (nar_b true) (Nat.le_of_ble_eq_true rfl) (Nat.le_of_ble_eq_true rfl) rfl dX9_isShared_49
theorem s9_isShared : YV yX9_isShared RX9 cX9_isShared 3 (some .boolean) 2 := ⟨w_1318, w_1317, w_55, w_118, rfl, by decide +kernel, by decide +kernel, by decide +kernel⟩
def f9_isSharedAny_2 (h : AH) (v0 : Nat) (v1 : Int32) : Nat → Int32 → Option (Bool)
  | 0, _ => none
  | n + 1, v2 => (if (6 : Int32) ≤ v2 then some false else (f9_isShared h v0 v1 v2).bind fun x11 => (if x11 = true then some true else (some (v2 + (1 : Int32))).bind fun x19 => f9_isSharedAny_2 h v0 v1 n x19))
set_option maxRecDepth 100000 in
theorem vl9_isSharedAny_2 {κ : Kx} (hc : CX κ RX9 cX9_isSharedAny) (hr : RX κ ({ frames := 3, cells := 0, slots := 0, locals := 66 } : Room)) (hq : QX κ (some .boolean) 0 0) (hL : 3 = κ.2.2.2.2.1)  (h : AH) (v0 : Nat) (v1 : Int32) : ∀ n (v2 : Int32), V κ (rB h) 0 0 2 [(0, .ref v0), (1, .int v1), (2, .int v2)] [] h (f9_isSharedAny_2 h v0 v1 n v2) := by
  have hn : ∀ i, i < 3 → i < κ.2.2.2.2.1 := fun i q => hL ▸ q
  intro n
  induction n with
  | zero => intros; exact v_none
  | succ n ih =>
    intro v2
    rw [f9_isSharedAny_2.eq_2]
    refine v_iload_n (i := 2) hc 2 rfl dX9_isSharedAny_2 rfl ?_
    refine v_bipush (x := (6 : Int32)) hc dX9_isSharedAny_3 zb_6 ?_
    refine v_icmp_ge hc 25 dX9_isSharedAny_5 rfl ?_ ?_
    · refine v_iconst (x := (0 : Int32)) hc dX9_isSharedAny_25 zi_0 ?_
      exact v_iret (v := bI false) hc hq rfl (nar_b false) (Nat.le_of_ble_eq_true rfl) (Nat.le_of_ble_eq_true rfl) rfl dX9_isSharedAny_26
    · refine v_aload_n (i := 0) hc 0 rfl dX9_isSharedAny_8 rfl ?_
      refine v_iload_n (i := 1) hc 1 rfl dX9_isSharedAny_9 rfl ?_
      refine v_iload_n (i := 2) hc 2 rfl dX9_isSharedAny_10 rfl ?_
      refine v_cB hc (m_V' (As := [.int v1, .int v2]) (b := v0) (rest := []) 2 hc hr (fun l D tys base => ct9_isShared l D tys base h v0 v1 v2) (fun x hx => ob9_isShared hx) rfl s9_isShared w_1315 rfl ⟨Nat.le_of_ble_eq_true rfl, Nat.le_of_ble_eq_true rfl⟩ ⟨Nat.le_of_ble_eq_true rfl, Nat.le_of_ble_eq_true rfl⟩ (Nat.le_of_ble_eq_true rfl) dX9_isSharedAny_11) fun x11 => ?_
      refine v_ifb_eq hc 19 dX9_isSharedAny_14 rfl ?_ ?_
      · refine v_iincN (i := 2) (y := (1 : Int32)) (L' := fun z => [(2, .int z), (0, .ref v0), (1, .int v1)]) hc 2 rfl dX9_isSharedAny_19 zi_1 (hn 2 (Nat.le_of_ble_eq_true rfl)) (fun _ => rfl) fun x19 => ?_
        refine v_goto hc 2 dX9_isSharedAny_22 rfl ?_
        refine v_sub (L' := [(0, .ref v0), (1, .int v1), (2, .int x19)]) [1, 2, 0] rfl ?_
        exact ih x19
      · refine v_iconst (x := (1 : Int32)) hc dX9_isSharedAny_17 zi_1 ?_
        exact v_iret (v := bI true) hc hq rfl (nar_b true) (Nat.le_of_ble_eq_true rfl) (Nat.le_of_ble_eq_true rfl) rfl dX9_isSharedAny_18
def f9_isSharedAny (h : AH) (this : Nat) (p0 : Int32) : Option (Bool) := (hObj 9 h this).bind fun _ => f9_isSharedAny_2 h this p0 FU (0 : Int32)
theorem ob9_isSharedAny {h : AH} {this : Nat} {p0 : Int32} {x : Bool} (e : f9_isSharedAny h this p0 = some x) : ∃ fs, hObj 9 h this = some fs := by
  unfold f9_isSharedAny at e
  obtain ⟨fs, h1, -⟩ := bd e
  exact ⟨fs, h1⟩
set_option maxRecDepth 100000 in
theorem ct9_isSharedAny (l : Launch) (D : va_G) (tys : Tys) (base : Nat) (h : AH) (this : Nat) (p0 : Int32) : Ct l D tys base yX9_isSharedAny cX9_isSharedAny 3 (some .boolean) 3 66 0 0 [.ref this, .int p0] h (rB h) (f9_isSharedAny h this p0) := by
  refine Ct.intro (own := RX9) (L := [(0, .ref this), (1, .int p0)]) rfl (by decide) rfl (Nat.le_of_ble_eq_true rfl) fun κ hc hr hq hi hL => ?_
  have hn : ∀ i, i < 3 → i < κ.2.2.2.2.1 := fun i q => hL ▸ q
  unfold f9_isSharedAny
  refine v_obj ?_
  refine v_iconst (x := (0 : Int32)) hc dX9_isSharedAny_0 zi_0 ?_
  refine v_istore_n (i := 2) (L' := [(2, .int (0 : Int32)), (0, .ref this), (1, .int p0)]) hc dX9_isSharedAny_1 rfl (hn 2 (Nat.le_of_ble_eq_true rfl)) rfl ?_
  refine v_sub (L' := [(0, .ref this), (1, .int p0), (2, .int (0 : Int32))]) [1, 2, 0] rfl ?_
  exact vl9_isSharedAny_2 hc hr hq hL h this p0 FU (0 : Int32)
theorem s9_isSharedAny : YV yX9_isSharedAny RX9 cX9_isSharedAny 3 (some .boolean) 1 := ⟨w_1314, w_1313, w_54, w_118, rfl, by decide +kernel, by decide +kernel, by decide +kernel⟩
def f9_isNowhere_28 (h : AH) (v0 : Nat) (v2 : Int32) : Nat → Int32 → Option (Bool)
  | 0, _ => none
  | n + 1, v3 => (if (6 : Int32) ≤ v3 then some true else (f9_factOf h v0 v3 v2).bind fun x37 => (if x37 = (-1 : Int32) then (some (v3 + (1 : Int32))).bind fun x46 => f9_isNowhere_28 h v0 v2 n x46 else some false))
set_option maxRecDepth 100000 in
theorem vl9_isNowhere_28 {κ : Kx} (hc : CX κ RX9 cX9_isNowhere) (hr : RX κ ({ frames := 1, cells := 0, slots := 0, locals := 23 } : Room)) (hq : QX κ (some .boolean) 0 0) (hL : 4 = κ.2.2.2.2.1)  (h : AH) (v0 : Nat) (v2 : Int32) : ∀ n (v3 : Int32), V κ (rB h) 0 0 28 [(0, .ref v0), (2, .int v2), (3, .int v3)] [] h (f9_isNowhere_28 h v0 v2 n v3) := by
  have hn : ∀ i, i < 4 → i < κ.2.2.2.2.1 := fun i q => hL ▸ q
  intro n
  induction n with
  | zero => intros; exact v_none
  | succ n ih =>
    intro v3
    rw [f9_isNowhere_28.eq_2]
    refine v_iload_n (i := 3) hc 2 rfl dX9_isNowhere_28 rfl ?_
    refine v_bipush (x := (6 : Int32)) hc dX9_isNowhere_29 zb_6 ?_
    refine v_icmp_ge hc 52 dX9_isNowhere_31 rfl ?_ ?_
    · refine v_iconst (x := (1 : Int32)) hc dX9_isNowhere_52 zi_1 ?_
      exact v_iret (v := bI true) hc hq rfl (nar_b true) (Nat.le_of_ble_eq_true rfl) (Nat.le_of_ble_eq_true rfl) rfl dX9_isNowhere_53
    · refine v_aload_n (i := 0) hc 0 rfl dX9_isNowhere_34 rfl ?_
      refine v_iload_n (i := 3) hc 2 rfl dX9_isNowhere_35 rfl ?_
      refine v_iload_n (i := 2) hc 1 rfl dX9_isNowhere_36 rfl ?_
      refine v_cI hc (m_V' (As := [.int v3, .int v2]) (b := v0) (rest := []) 2 hc hr (fun l D tys base => ct9_factOf l D tys base h v0 v3 v2) (fun x hx => ob9_factOf hx) rfl s9_factOf w_1272 rfl ⟨Nat.le_of_ble_eq_true rfl, Nat.le_of_ble_eq_true rfl⟩ ⟨Nat.le_of_ble_eq_true rfl, Nat.le_of_ble_eq_true rfl⟩ (Nat.le_of_ble_eq_true rfl) dX9_isNowhere_37) fun x37 => ?_
      refine v_iconst (x := (-1 : Int32)) hc dX9_isNowhere_40 zi_m1 ?_
      refine v_icmp_eq hc 46 dX9_isNowhere_41 rfl ?_ ?_
      · refine v_iincN (i := 3) (y := (1 : Int32)) (L' := fun z => [(3, .int z), (0, .ref v0), (2, .int v2)]) hc 2 rfl dX9_isNowhere_46 zi_1 (hn 3 (Nat.le_of_ble_eq_true rfl)) (fun _ => rfl) fun x46 => ?_
        refine v_goto hc 28 dX9_isNowhere_49 rfl ?_
        refine v_sub (L' := [(0, .ref v0), (2, .int v2), (3, .int x46)]) [1, 2, 0] rfl ?_
        exact ih x46
      · refine v_iconst (x := (0 : Int32)) hc dX9_isNowhere_44 zi_0 ?_
        exact v_iret (v := bI false) hc hq rfl (nar_b false) (Nat.le_of_ble_eq_true rfl) (Nat.le_of_ble_eq_true rfl) rfl dX9_isNowhere_45
def f9_isNowhere (h : AH) (this : Nat) (p0 : Int32) : Option (Bool) := (hObj 9 h this).bind fun _ => (fR 9 0 h this).bind fun x1 => (aI 0 h x1 (((2230 : Int32) + ((3 : Int32) * p0)) + (1 : Int32))).bind fun x13 => (f9_truthOf h this x13).bind fun x17 => (if x17 = (-1 : Int32) then f9_isNowhere_28 h this x13 FU (0 : Int32) else some false)
theorem ob9_isNowhere {h : AH} {this : Nat} {p0 : Int32} {x : Bool} (e : f9_isNowhere h this p0 = some x) : ∃ fs, hObj 9 h this = some fs := by
  unfold f9_isNowhere at e
  obtain ⟨fs, h1, -⟩ := bd e
  exact ⟨fs, h1⟩
set_option maxRecDepth 100000 in
theorem ct9_isNowhere (l : Launch) (D : va_G) (tys : Tys) (base : Nat) (h : AH) (this : Nat) (p0 : Int32) : Ct l D tys base yX9_isNowhere cX9_isNowhere 4 (some .boolean) 1 23 0 0 [.ref this, .int p0] h (rB h) (f9_isNowhere h this p0) := by
  refine Ct.intro (own := RX9) (L := [(0, .ref this), (1, .int p0)]) rfl (by decide) rfl (Nat.le_of_ble_eq_true rfl) fun κ hc hr hq hi hL => ?_
  have hn : ∀ i, i < 4 → i < κ.2.2.2.2.1 := fun i q => hL ▸ q
  unfold f9_isNowhere
  refine v_obj ?_
  refine v_aload_n (i := 0) hc 0 rfl dX9_isNowhere_0 rfl ?_
  refine v_getV hc kX9 0 (by decide) w_1131 rfl dX9_isNowhere_1 (gR rfl fun x1 => ?_)
  refine v_sipush (x := (2230 : Int32)) hc dX9_isNowhere_4 zs_2230 ?_
  refine v_iconst (x := (3 : Int32)) hc dX9_isNowhere_7 zi_3 ?_
  refine v_iload_n (i := 1) hc 1 rfl dX9_isNowhere_8 rfl ?_
  refine v_imul hc dX9_isNowhere_9 ?_
  refine v_iadd hc dX9_isNowhere_10 ?_
  refine v_iconst (x := (1 : Int32)) hc dX9_isNowhere_11 zi_1 ?_
  refine v_iadd hc dX9_isNowhere_12 ?_
  refine v_iald hc dX9_isNowhere_13 fun x13 => ?_
  refine v_istore_n (i := 2) (L' := [(2, .int x13), (0, .ref this), (1, .int p0)]) hc dX9_isNowhere_14 rfl (hn 2 (Nat.le_of_ble_eq_true rfl)) rfl ?_
  refine v_aload_n (i := 0) hc 1 rfl dX9_isNowhere_15 rfl ?_
  refine v_iload_n (i := 2) hc 0 rfl dX9_isNowhere_16 rfl ?_
  refine v_cI hc (m_V' (As := [.int x13]) (b := this) (rest := []) 1 hc hr (fun l D tys base => ct9_truthOf l D tys base h this x13) (fun x hx => ob9_truthOf hx) rfl s9_truthOf w_1263 rfl ⟨Nat.le_of_ble_eq_true rfl, Nat.le_of_ble_eq_true rfl⟩ ⟨Nat.le_of_ble_eq_true rfl, Nat.le_of_ble_eq_true rfl⟩ (Nat.le_of_ble_eq_true rfl) dX9_isNowhere_17) fun x17 => ?_
  refine v_iconst (x := (-1 : Int32)) hc dX9_isNowhere_20 zi_m1 ?_
  refine v_icmp_eq hc 26 dX9_isNowhere_21 rfl ?_ ?_
  · refine v_iconst (x := (0 : Int32)) hc dX9_isNowhere_26 zi_0 ?_
    refine v_istore_n (i := 3) (L' := [(3, .int (0 : Int32)), (2, .int x13), (0, .ref this), (1, .int p0)]) hc dX9_isNowhere_27 rfl (hn 3 (Nat.le_of_ble_eq_true rfl)) rfl ?_
    refine v_sub (L' := [(0, .ref this), (2, .int x13), (3, .int (0 : Int32))]) [2, 1, 0] rfl ?_
    exact vl9_isNowhere_28 hc hr hq hL h this x13 FU (0 : Int32)
  · refine v_iconst (x := (0 : Int32)) hc dX9_isNowhere_24 zi_0 ?_
    exact v_iret (v := bI false) hc hq rfl (nar_b false) (Nat.le_of_ble_eq_true rfl) (Nat.le_of_ble_eq_true rfl) rfl dX9_isNowhere_25
theorem s9_isNowhere : YV yX9_isNowhere RX9 cX9_isNowhere 4 (some .boolean) 1 := ⟨w_1322, w_1321, w_56, w_118, rfl, by decide +kernel, by decide +kernel, by decide +kernel⟩
def f9_pagesOf_87 (k5 : Int32 → Int32 → Option (Int32)) (h : AH) (v0 : Nat) (v1 : Int32) (v2 : Int32) (v3 : Int32) (v4 : Int32) (s0 : Bool) : Option (Int32) := (if s0 = true then (some (v3 + (1 : Int32))).bind fun x101 => (some (v4 + (1 : Int32))).bind fun x102 => k5 x101 x102 else (some (v3 + (0 : Int32))).bind fun x101 => (some (v4 + (1 : Int32))).bind fun x102 => k5 x101 x102)
set_option maxRecDepth 100000 in
theorem vl9_pagesOf_87 {κ : Kx} (hc : CX κ RX9 cX9_pagesOf) (hr : RX κ ({ frames := 4, cells := 0, slots := 0, locals := 88 } : Room)) (hq : QX κ (some .int) 0 0) (hL : 6 = κ.2.2.2.2.1) (k5 : Int32 → Int32 → Option (Int32)) (h : AH) (v0 : Nat) (v1 : Int32) (v2 : Int32) (hk5 : ∀ (v3 : Int32) (v4 : Int32), V κ (rI h) 0 0 5 [(0, .ref v0), (1, .int v1), (2, .int v2), (3, .int v3), (4, .int v4)] [] h (k5 v3 v4)) (v3 : Int32) (v4 : Int32) (s0 : Bool) : V κ (rI h) 0 0 87 [(0, .ref v0), (1, .int v1), (2, .int v2), (3, .int v3), (4, .int v4)] [.int (bI s0)] h (f9_pagesOf_87 k5 h v0 v1 v2 v3 v4 s0) := by
  have hn : ∀ i, i < 6 → i < κ.2.2.2.2.1 := fun i q => hL ▸ q
  unfold f9_pagesOf_87
  refine v_istore (i := 5) (L' := [(5, .int (bI s0)), (0, .ref v0), (1, .int v1), (2, .int v2), (3, .int v3), (4, .int v4)]) hc dX9_pagesOf_87 (hn 5 (Nat.le_of_ble_eq_true rfl)) rfl ?_
  refine v_iload_n (i := 3) hc 4 rfl dX9_pagesOf_89 rfl ?_
  refine v_iload (i := 5) hc 0 rfl dX9_pagesOf_90 ?_
  refine v_ifb_eq hc 99 dX9_pagesOf_92 rfl ?_ ?_
  · refine v_iconst (x := (0 : Int32)) hc dX9_pagesOf_99 zi_0 ?_
    refine v_iadd hc dX9_pagesOf_100 ?_
    refine v_nmI fun x101 => ?_
    refine v_istore_n (i := 3) (L' := [(3, .int x101), (5, .int (bI s0)), (0, .ref v0), (1, .int v1), (2, .int v2), (4, .int v4)]) hc dX9_pagesOf_101 rfl (hn 3 (Nat.le_of_ble_eq_true rfl)) rfl ?_
    refine v_iincN (i := 4) (y := (1 : Int32)) (L' := fun z => [(4, .int z), (3, .int x101), (5, .int (bI s0)), (0, .ref v0), (1, .int v1), (2, .int v2)]) hc 5 rfl dX9_pagesOf_102 zi_1 (hn 4 (Nat.le_of_ble_eq_true rfl)) (fun _ => rfl) fun x102 => ?_
    refine v_goto hc 5 dX9_pagesOf_105 rfl ?_
    refine v_sub (L' := [(0, .ref v0), (1, .int v1), (2, .int v2), (3, .int x101), (4, .int x102)]) [3, 4, 5, 1, 0] rfl ?_
    exact hk5 x101 x102
  · refine v_iconst (x := (1 : Int32)) hc dX9_pagesOf_95 zi_1 ?_
    refine v_goto hc 100 dX9_pagesOf_96 rfl ?_
    refine v_iadd hc dX9_pagesOf_100 ?_
    refine v_nmI fun x101 => ?_
    refine v_istore_n (i := 3) (L' := [(3, .int x101), (5, .int (bI s0)), (0, .ref v0), (1, .int v1), (2, .int v2), (4, .int v4)]) hc dX9_pagesOf_101 rfl (hn 3 (Nat.le_of_ble_eq_true rfl)) rfl ?_
    refine v_iincN (i := 4) (y := (1 : Int32)) (L' := fun z => [(4, .int z), (3, .int x101), (5, .int (bI s0)), (0, .ref v0), (1, .int v1), (2, .int v2)]) hc 5 rfl dX9_pagesOf_102 zi_1 (hn 4 (Nat.le_of_ble_eq_true rfl)) (fun _ => rfl) fun x102 => ?_
    refine v_goto hc 5 dX9_pagesOf_105 rfl ?_
    refine v_sub (L' := [(0, .ref v0), (1, .int v1), (2, .int v2), (3, .int x101), (4, .int x102)]) [3, 4, 5, 1, 0] rfl ?_
    exact hk5 x101 x102
def f9_pagesOf_54 (k5 : Int32 → Int32 → Option (Int32)) (h : AH) (v0 : Nat) (v1 : Int32) (v2 : Int32) (v3 : Int32) (v4 : Int32) : Option (Int32) := (if v2 = (2 : Int32) then (f9_isSharedAny h v0 v4).bind fun x62 => (if x62 = true then f9_pagesOf_87 k5 h v0 v1 v2 v3 v4 true else (if v2 = (3 : Int32) then (f9_isNowhere h v0 v4).bind fun x76 => (if x76 = true then f9_pagesOf_87 k5 h v0 v1 v2 v3 v4 true else f9_pagesOf_87 k5 h v0 v1 v2 v3 v4 false) else f9_pagesOf_87 k5 h v0 v1 v2 v3 v4 false)) else (if v2 = (3 : Int32) then (f9_isNowhere h v0 v4).bind fun x76 => (if x76 = true then f9_pagesOf_87 k5 h v0 v1 v2 v3 v4 true else f9_pagesOf_87 k5 h v0 v1 v2 v3 v4 false) else f9_pagesOf_87 k5 h v0 v1 v2 v3 v4 false))
set_option maxRecDepth 100000 in
theorem vl9_pagesOf_54 {κ : Kx} (hc : CX κ RX9 cX9_pagesOf) (hr : RX κ ({ frames := 4, cells := 0, slots := 0, locals := 88 } : Room)) (hq : QX κ (some .int) 0 0) (hL : 6 = κ.2.2.2.2.1) (k5 : Int32 → Int32 → Option (Int32)) (h : AH) (v0 : Nat) (v1 : Int32) (v2 : Int32) (hk5 : ∀ (v3 : Int32) (v4 : Int32), V κ (rI h) 0 0 5 [(0, .ref v0), (1, .int v1), (2, .int v2), (3, .int v3), (4, .int v4)] [] h (k5 v3 v4)) (v3 : Int32) (v4 : Int32) : V κ (rI h) 0 0 54 [(0, .ref v0), (1, .int v1), (2, .int v2), (3, .int v3), (4, .int v4)] [] h (f9_pagesOf_54 k5 h v0 v1 v2 v3 v4) := by
  have hn : ∀ i, i < 6 → i < κ.2.2.2.2.1 := fun i q => hL ▸ q
  unfold f9_pagesOf_54
  refine v_iload_n (i := 2) hc 2 rfl dX9_pagesOf_54 rfl ?_
  refine v_iconst (x := (2 : Int32)) hc dX9_pagesOf_55 zi_2 ?_
  refine v_icmp_ne hc 68 dX9_pagesOf_56 rfl ?_ ?_
  · refine v_iload_n (i := 2) hc 2 rfl dX9_pagesOf_68 rfl ?_
    refine v_iconst (x := (3 : Int32)) hc dX9_pagesOf_69 zi_3 ?_
    refine v_icmp_ne hc 86 dX9_pagesOf_70 rfl ?_ ?_
    · refine v_iconst (x := (0 : Int32)) hc dX9_pagesOf_86 zi_0 ?_
      refine v_sub (L' := [(0, .ref v0), (1, .int v1), (2, .int v2), (3, .int v3), (4, .int v4)]) [0, 1, 2, 3, 4] rfl ?_
      exact vl9_pagesOf_87 hc hr hq hL k5 h v0 v1 v2 hk5 v3 v4 false
    · refine v_aload_n (i := 0) hc 0 rfl dX9_pagesOf_73 rfl ?_
      refine v_iload (i := 4) hc 4 rfl dX9_pagesOf_74 ?_
      refine v_cB hc (m_V' (As := [.int v4]) (b := v0) (rest := []) 1 hc hr (fun l D tys base => ct9_isNowhere l D tys base h v0 v4) (fun x hx => ob9_isNowhere hx) rfl s9_isNowhere w_1319 rfl ⟨Nat.le_of_ble_eq_true rfl, Nat.le_of_ble_eq_true rfl⟩ ⟨Nat.le_of_ble_eq_true rfl, Nat.le_of_ble_eq_true rfl⟩ (Nat.le_of_ble_eq_true rfl) dX9_pagesOf_76) fun x76 => ?_
      refine v_ifb_eq hc 86 dX9_pagesOf_79 rfl ?_ ?_
      · refine v_iconst (x := (0 : Int32)) hc dX9_pagesOf_86 zi_0 ?_
        refine v_sub (L' := [(0, .ref v0), (1, .int v1), (2, .int v2), (3, .int v3), (4, .int v4)]) [0, 1, 2, 3, 4] rfl ?_
        exact vl9_pagesOf_87 hc hr hq hL k5 h v0 v1 v2 hk5 v3 v4 false
      · refine v_iconst (x := (1 : Int32)) hc dX9_pagesOf_82 zi_1 ?_
        refine v_goto hc 87 dX9_pagesOf_83 rfl ?_
        refine v_sub (L' := [(0, .ref v0), (1, .int v1), (2, .int v2), (3, .int v3), (4, .int v4)]) [0, 1, 2, 3, 4] rfl ?_
        exact vl9_pagesOf_87 hc hr hq hL k5 h v0 v1 v2 hk5 v3 v4 true
  · refine v_aload_n (i := 0) hc 0 rfl dX9_pagesOf_59 rfl ?_
    refine v_iload (i := 4) hc 4 rfl dX9_pagesOf_60 ?_
    refine v_cB hc (m_V' (As := [.int v4]) (b := v0) (rest := []) 1 hc hr (fun l D tys base => ct9_isSharedAny l D tys base h v0 v4) (fun x hx => ob9_isSharedAny hx) rfl s9_isSharedAny w_1311 rfl ⟨Nat.le_of_ble_eq_true rfl, Nat.le_of_ble_eq_true rfl⟩ ⟨Nat.le_of_ble_eq_true rfl, Nat.le_of_ble_eq_true rfl⟩ (Nat.le_of_ble_eq_true rfl) dX9_pagesOf_62) fun x62 => ?_
    refine v_ifb_ne hc 82 dX9_pagesOf_65 rfl ?_ ?_
    · refine v_iconst (x := (1 : Int32)) hc dX9_pagesOf_82 zi_1 ?_
      refine v_goto hc 87 dX9_pagesOf_83 rfl ?_
      refine v_sub (L' := [(0, .ref v0), (1, .int v1), (2, .int v2), (3, .int v3), (4, .int v4)]) [0, 1, 2, 3, 4] rfl ?_
      exact vl9_pagesOf_87 hc hr hq hL k5 h v0 v1 v2 hk5 v3 v4 true
    · refine v_iload_n (i := 2) hc 2 rfl dX9_pagesOf_68 rfl ?_
      refine v_iconst (x := (3 : Int32)) hc dX9_pagesOf_69 zi_3 ?_
      refine v_icmp_ne hc 86 dX9_pagesOf_70 rfl ?_ ?_
      · refine v_iconst (x := (0 : Int32)) hc dX9_pagesOf_86 zi_0 ?_
        refine v_sub (L' := [(0, .ref v0), (1, .int v1), (2, .int v2), (3, .int v3), (4, .int v4)]) [0, 1, 2, 3, 4] rfl ?_
        exact vl9_pagesOf_87 hc hr hq hL k5 h v0 v1 v2 hk5 v3 v4 false
      · refine v_aload_n (i := 0) hc 0 rfl dX9_pagesOf_73 rfl ?_
        refine v_iload (i := 4) hc 4 rfl dX9_pagesOf_74 ?_
        refine v_cB hc (m_V' (As := [.int v4]) (b := v0) (rest := []) 1 hc hr (fun l D tys base => ct9_isNowhere l D tys base h v0 v4) (fun x hx => ob9_isNowhere hx) rfl s9_isNowhere w_1319 rfl ⟨Nat.le_of_ble_eq_true rfl, Nat.le_of_ble_eq_true rfl⟩ ⟨Nat.le_of_ble_eq_true rfl, Nat.le_of_ble_eq_true rfl⟩ (Nat.le_of_ble_eq_true rfl) dX9_pagesOf_76) fun x76 => ?_
        refine v_ifb_eq hc 86 dX9_pagesOf_79 rfl ?_ ?_
        · refine v_iconst (x := (0 : Int32)) hc dX9_pagesOf_86 zi_0 ?_
          refine v_sub (L' := [(0, .ref v0), (1, .int v1), (2, .int v2), (3, .int v3), (4, .int v4)]) [0, 1, 2, 3, 4] rfl ?_
          exact vl9_pagesOf_87 hc hr hq hL k5 h v0 v1 v2 hk5 v3 v4 false
        · refine v_iconst (x := (1 : Int32)) hc dX9_pagesOf_82 zi_1 ?_
          refine v_goto hc 87 dX9_pagesOf_83 rfl ?_
          refine v_sub (L' := [(0, .ref v0), (1, .int v1), (2, .int v2), (3, .int v3), (4, .int v4)]) [0, 1, 2, 3, 4] rfl ?_
          exact vl9_pagesOf_87 hc hr hq hL k5 h v0 v1 v2 hk5 v3 v4 true
def f9_pagesOf_5 (h : AH) (v0 : Nat) (v1 : Int32) (v2 : Int32) : Nat → Int32 → Int32 → Option (Int32)
  | 0, _, _ => none
  | n + 1, v3, v4 => (fR 9 0 h v0).bind fun x8 => (aI 0 h x8 (5 : Int32)).bind fun x12 => (if x12 ≤ v4 then some v3 else (fR 9 0 h v0).bind fun x17 => (aI 0 h x17 ((2230 : Int32) + ((3 : Int32) * v4))).bind fun x28 => (if x28 = v1 then (if v2 = 0 then f9_pagesOf_87 (fun v3 v4 => f9_pagesOf_5 h v0 v1 v2 n v3 v4) h v0 v1 v2 v3 v4 true else (if v2 = (1 : Int32) then (f9_isWrong h v0 v4).bind fun x48 => (if x48 = true then f9_pagesOf_87 (fun v3 v4 => f9_pagesOf_5 h v0 v1 v2 n v3 v4) h v0 v1 v2 v3 v4 true else f9_pagesOf_54 (fun v3 v4 => f9_pagesOf_5 h v0 v1 v2 n v3 v4) h v0 v1 v2 v3 v4) else f9_pagesOf_54 (fun v3 v4 => f9_pagesOf_5 h v0 v1 v2 n v3 v4) h v0 v1 v2 v3 v4)) else (some (v4 + (1 : Int32))).bind fun x102 => f9_pagesOf_5 h v0 v1 v2 n v3 x102))
set_option maxRecDepth 100000 in
theorem vl9_pagesOf_5 {κ : Kx} (hc : CX κ RX9 cX9_pagesOf) (hr : RX κ ({ frames := 4, cells := 0, slots := 0, locals := 88 } : Room)) (hq : QX κ (some .int) 0 0) (hL : 6 = κ.2.2.2.2.1)  (h : AH) (v0 : Nat) (v1 : Int32) (v2 : Int32) : ∀ n (v3 : Int32) (v4 : Int32), V κ (rI h) 0 0 5 [(0, .ref v0), (1, .int v1), (2, .int v2), (3, .int v3), (4, .int v4)] [] h (f9_pagesOf_5 h v0 v1 v2 n v3 v4) := by
  have hn : ∀ i, i < 6 → i < κ.2.2.2.2.1 := fun i q => hL ▸ q
  intro n
  induction n with
  | zero => intros; exact v_none
  | succ n ih =>
    intro v3 v4
    rw [f9_pagesOf_5.eq_2]
    refine v_iload (i := 4) hc 4 rfl dX9_pagesOf_5 ?_
    refine v_aload_n (i := 0) hc 0 rfl dX9_pagesOf_7 rfl ?_
    refine v_getV hc kX9 0 (by decide) w_1131 rfl dX9_pagesOf_8 (gR rfl fun x8 => ?_)
    refine v_iconst (x := (5 : Int32)) hc dX9_pagesOf_11 zi_5 ?_
    refine v_iald hc dX9_pagesOf_12 fun x12 => ?_
    refine v_icmp_ge hc 108 dX9_pagesOf_13 rfl ?_ ?_
    · refine v_iload_n (i := 3) hc 3 rfl dX9_pagesOf_108 rfl ?_
      exact v_iret hc hq rfl rfl (Nat.le_of_ble_eq_true rfl) (Nat.le_of_ble_eq_true rfl) rfl dX9_pagesOf_109
    · refine v_aload_n (i := 0) hc 0 rfl dX9_pagesOf_16 rfl ?_
      refine v_getV hc kX9 0 (by decide) w_1131 rfl dX9_pagesOf_17 (gR rfl fun x17 => ?_)
      refine v_sipush (x := (2230 : Int32)) hc dX9_pagesOf_20 zs_2230 ?_
      refine v_iconst (x := (3 : Int32)) hc dX9_pagesOf_23 zi_3 ?_
      refine v_iload (i := 4) hc 4 rfl dX9_pagesOf_24 ?_
      refine v_imul hc dX9_pagesOf_26 ?_
      refine v_iadd hc dX9_pagesOf_27 ?_
      refine v_iald hc dX9_pagesOf_28 fun x28 => ?_
      refine v_iload_n (i := 1) hc 1 rfl dX9_pagesOf_29 rfl ?_
      refine v_icmp_eq hc 36 dX9_pagesOf_30 rfl ?_ ?_
      · refine v_iload_n (i := 2) hc 2 rfl dX9_pagesOf_36 rfl ?_
        refine v_if_eq hc 82 dX9_pagesOf_37 rfl ?_ ?_
        · refine v_iconst (x := (1 : Int32)) hc dX9_pagesOf_82 zi_1 ?_
          refine v_goto hc 87 dX9_pagesOf_83 rfl ?_
          refine v_sub (L' := [(0, .ref v0), (1, .int v1), (2, .int v2), (3, .int v3), (4, .int v4)]) [0, 1, 2, 3, 4] rfl ?_
          exact vl9_pagesOf_87 hc hr hq hL (fun v3 v4 => f9_pagesOf_5 h v0 v1 v2 n v3 v4) h v0 v1 v2 ih v3 v4 true
        · refine v_iload_n (i := 2) hc 2 rfl dX9_pagesOf_40 rfl ?_
          refine v_iconst (x := (1 : Int32)) hc dX9_pagesOf_41 zi_1 ?_
          refine v_icmp_ne hc 54 dX9_pagesOf_42 rfl ?_ ?_
          · refine v_sub (L' := [(0, .ref v0), (1, .int v1), (2, .int v2), (3, .int v3), (4, .int v4)]) [0, 1, 2, 3, 4] rfl ?_
            exact vl9_pagesOf_54 hc hr hq hL (fun v3 v4 => f9_pagesOf_5 h v0 v1 v2 n v3 v4) h v0 v1 v2 ih v3 v4
          · refine v_aload_n (i := 0) hc 0 rfl dX9_pagesOf_45 rfl ?_
            refine v_iload (i := 4) hc 4 rfl dX9_pagesOf_46 ?_
            refine v_cB hc (m_V' (As := [.int v4]) (b := v0) (rest := []) 1 hc hr (fun l D tys base => ct9_isWrong l D tys base h v0 v4) (fun x hx => ob9_isWrong hx) rfl s9_isWrong w_1307 rfl ⟨Nat.le_of_ble_eq_true rfl, Nat.le_of_ble_eq_true rfl⟩ ⟨Nat.le_of_ble_eq_true rfl, Nat.le_of_ble_eq_true rfl⟩ (Nat.le_of_ble_eq_true rfl) dX9_pagesOf_48) fun x48 => ?_
            refine v_ifb_ne hc 82 dX9_pagesOf_51 rfl ?_ ?_
            · refine v_iconst (x := (1 : Int32)) hc dX9_pagesOf_82 zi_1 ?_
              refine v_goto hc 87 dX9_pagesOf_83 rfl ?_
              refine v_sub (L' := [(0, .ref v0), (1, .int v1), (2, .int v2), (3, .int v3), (4, .int v4)]) [0, 1, 2, 3, 4] rfl ?_
              exact vl9_pagesOf_87 hc hr hq hL (fun v3 v4 => f9_pagesOf_5 h v0 v1 v2 n v3 v4) h v0 v1 v2 ih v3 v4 true
            · refine v_sub (L' := [(0, .ref v0), (1, .int v1), (2, .int v2), (3, .int v3), (4, .int v4)]) [0, 1, 2, 3, 4] rfl ?_
              exact vl9_pagesOf_54 hc hr hq hL (fun v3 v4 => f9_pagesOf_5 h v0 v1 v2 n v3 v4) h v0 v1 v2 ih v3 v4
      · refine v_goto hc 102 dX9_pagesOf_33 rfl ?_
        refine v_iincN (i := 4) (y := (1 : Int32)) (L' := fun z => [(4, .int z), (0, .ref v0), (1, .int v1), (2, .int v2), (3, .int v3)]) hc 4 rfl dX9_pagesOf_102 zi_1 (hn 4 (Nat.le_of_ble_eq_true rfl)) (fun _ => rfl) fun x102 => ?_
        refine v_goto hc 5 dX9_pagesOf_105 rfl ?_
        refine v_sub (L' := [(0, .ref v0), (1, .int v1), (2, .int v2), (3, .int v3), (4, .int x102)]) [1, 2, 3, 4, 0] rfl ?_
        exact ih v3 x102
def f9_pagesOf (h : AH) (this : Nat) (p0 : Int32) (p1 : Int32) : Option (Int32) := (hObj 9 h this).bind fun _ => f9_pagesOf_5 h this p0 p1 FU (0 : Int32) (0 : Int32)
theorem ob9_pagesOf {h : AH} {this : Nat} {p0 : Int32} {p1 : Int32} {x : Int32} (e : f9_pagesOf h this p0 p1 = some x) : ∃ fs, hObj 9 h this = some fs := by
  unfold f9_pagesOf at e
  obtain ⟨fs, h1, -⟩ := bd e
  exact ⟨fs, h1⟩
set_option maxRecDepth 100000 in
theorem ct9_pagesOf (l : Launch) (D : va_G) (tys : Tys) (base : Nat) (h : AH) (this : Nat) (p0 : Int32) (p1 : Int32) : Ct l D tys base yX9_pagesOf cX9_pagesOf 6 (some .int) 4 88 0 0 [.ref this, .int p0, .int p1] h (rI h) (f9_pagesOf h this p0 p1) := by
  refine Ct.intro (own := RX9) (L := [(0, .ref this), (1, .int p0), (2, .int p1)]) rfl (by decide) rfl (Nat.le_of_ble_eq_true rfl) fun κ hc hr hq hi hL => ?_
  have hn : ∀ i, i < 6 → i < κ.2.2.2.2.1 := fun i q => hL ▸ q
  unfold f9_pagesOf
  refine v_obj ?_
  refine v_iconst (x := (0 : Int32)) hc dX9_pagesOf_0 zi_0 ?_
  refine v_istore_n (i := 3) (L' := [(3, .int (0 : Int32)), (0, .ref this), (1, .int p0), (2, .int p1)]) hc dX9_pagesOf_1 rfl (hn 3 (Nat.le_of_ble_eq_true rfl)) rfl ?_
  refine v_iconst (x := (0 : Int32)) hc dX9_pagesOf_2 zi_0 ?_
  refine v_istore (i := 4) (L' := [(4, .int (0 : Int32)), (3, .int (0 : Int32)), (0, .ref this), (1, .int p0), (2, .int p1)]) hc dX9_pagesOf_3 (hn 4 (Nat.le_of_ble_eq_true rfl)) rfl ?_
  refine v_sub (L' := [(0, .ref this), (1, .int p0), (2, .int p1), (3, .int (0 : Int32)), (4, .int (0 : Int32))]) [2, 3, 4, 1, 0] rfl ?_
  exact vl9_pagesOf_5 hc hr hq hL h this p0 p1 FU (0 : Int32) (0 : Int32)
theorem s9_pagesOf : YV yX9_pagesOf RX9 cX9_pagesOf 6 (some .int) 2 := ⟨w_1306, w_1305, w_52, w_118, rfl, by decide +kernel, by decide +kernel, by decide +kernel⟩
def f9_age_4 (h : AH) (v0 : Nat) (v1 : Int32) : Nat → Int32 → Int32 → Option (Int32)
  | 0, _, _ => none
  | n + 1, v2, v3 => (fR 9 0 h v0).bind fun x6 => (aI 0 h x6 (5 : Int32)).bind fun x10 => (if x10 ≤ v3 then if (365 : Int32) = 0 then none else (some (v2 / (365 : Int32))).bind fun z76 => some ((1900 : Int32) + z76) else (fR 9 0 h v0).bind fun x15 => (aI 0 h x15 ((2230 : Int32) + ((3 : Int32) * v3))).bind fun x25 => (if x25 = v1 then (fR 9 0 h v0).bind fun x31 => (aI 0 h x31 (((2230 : Int32) + ((3 : Int32) * v3)) + (1 : Int32))).bind fun x43 => (if x43 ≤ v2 then (some (v3 + (1 : Int32))).bind fun x63 => f9_age_4 h v0 v1 n v2 x63 else (fR 9 0 h v0).bind fun x49 => (aI 0 h x49 (((2230 : Int32) + ((3 : Int32) * v3)) + (1 : Int32))).bind fun x61 => (some (v3 + (1 : Int32))).bind fun x63 => f9_age_4 h v0 v1 n x61 x63) else (some (v3 + (1 : Int32))).bind fun x63 => f9_age_4 h v0 v1 n v2 x63))
set_option maxRecDepth 100000 in
theorem vl9_age_4 {κ : Kx} (hc : CX κ RX9 cX9_age) (hr : RX κ ({ frames := 0, cells := 0, slots := 0, locals := 0 } : Room)) (hq : QX κ (some .int) 0 0) (hL : 4 = κ.2.2.2.2.1)  (h : AH) (v0 : Nat) (v1 : Int32) : ∀ n (v2 : Int32) (v3 : Int32), V κ (rI h) 0 0 4 [(0, .ref v0), (1, .int v1), (2, .int v2), (3, .int v3)] [] h (f9_age_4 h v0 v1 n v2 v3) := by
  have hn : ∀ i, i < 4 → i < κ.2.2.2.2.1 := fun i q => hL ▸ q
  intro n
  induction n with
  | zero => intros; exact v_none
  | succ n ih =>
    intro v2 v3
    rw [f9_age_4.eq_2]
    refine v_iload_n (i := 3) hc 3 rfl dX9_age_4 rfl ?_
    refine v_aload_n (i := 0) hc 0 rfl dX9_age_5 rfl ?_
    refine v_getV hc kX9 0 (by decide) w_1131 rfl dX9_age_6 (gR rfl fun x6 => ?_)
    refine v_iconst (x := (5 : Int32)) hc dX9_age_9 zi_5 ?_
    refine v_iald hc dX9_age_10 fun x10 => ?_
    refine v_icmp_ge hc 69 dX9_age_11 rfl ?_ ?_
    · refine v_sipush (x := (1900 : Int32)) hc dX9_age_69 zs_1900 ?_
      refine v_iload_n (i := 2) hc 2 rfl dX9_age_72 rfl ?_
      refine v_sipush (x := (365 : Int32)) hc dX9_age_73 zs_365 ?_
      refine v_idivN hc dX9_age_76 fun z76 => ?_
      refine v_iadd hc dX9_age_77 ?_
      exact v_iret hc hq rfl rfl (Nat.le_of_ble_eq_true rfl) (Nat.le_of_ble_eq_true rfl) rfl dX9_age_78
    · refine v_aload_n (i := 0) hc 0 rfl dX9_age_14 rfl ?_
      refine v_getV hc kX9 0 (by decide) w_1131 rfl dX9_age_15 (gR rfl fun x15 => ?_)
      refine v_sipush (x := (2230 : Int32)) hc dX9_age_18 zs_2230 ?_
      refine v_iconst (x := (3 : Int32)) hc dX9_age_21 zi_3 ?_
      refine v_iload_n (i := 3) hc 3 rfl dX9_age_22 rfl ?_
      refine v_imul hc dX9_age_23 ?_
      refine v_iadd hc dX9_age_24 ?_
      refine v_iald hc dX9_age_25 fun x25 => ?_
      refine v_iload_n (i := 1) hc 1 rfl dX9_age_26 rfl ?_
      refine v_icmp_ne hc 63 dX9_age_27 rfl ?_ ?_
      · refine v_iincN (i := 3) (y := (1 : Int32)) (L' := fun z => [(3, .int z), (0, .ref v0), (1, .int v1), (2, .int v2)]) hc 3 rfl dX9_age_63 zi_1 (hn 3 (Nat.le_of_ble_eq_true rfl)) (fun _ => rfl) fun x63 => ?_
        refine v_goto hc 4 dX9_age_66 rfl ?_
        refine v_sub (L' := [(0, .ref v0), (1, .int v1), (2, .int v2), (3, .int x63)]) [1, 2, 3, 0] rfl ?_
        exact ih v2 x63
      · refine v_aload_n (i := 0) hc 0 rfl dX9_age_30 rfl ?_
        refine v_getV hc kX9 0 (by decide) w_1131 rfl dX9_age_31 (gR rfl fun x31 => ?_)
        refine v_sipush (x := (2230 : Int32)) hc dX9_age_34 zs_2230 ?_
        refine v_iconst (x := (3 : Int32)) hc dX9_age_37 zi_3 ?_
        refine v_iload_n (i := 3) hc 3 rfl dX9_age_38 rfl ?_
        refine v_imul hc dX9_age_39 ?_
        refine v_iadd hc dX9_age_40 ?_
        refine v_iconst (x := (1 : Int32)) hc dX9_age_41 zi_1 ?_
        refine v_iadd hc dX9_age_42 ?_
        refine v_iald hc dX9_age_43 fun x43 => ?_
        refine v_iload_n (i := 2) hc 2 rfl dX9_age_44 rfl ?_
        refine v_icmp_le hc 63 dX9_age_45 rfl ?_ ?_
        · refine v_iincN (i := 3) (y := (1 : Int32)) (L' := fun z => [(3, .int z), (0, .ref v0), (1, .int v1), (2, .int v2)]) hc 3 rfl dX9_age_63 zi_1 (hn 3 (Nat.le_of_ble_eq_true rfl)) (fun _ => rfl) fun x63 => ?_
          refine v_goto hc 4 dX9_age_66 rfl ?_
          refine v_sub (L' := [(0, .ref v0), (1, .int v1), (2, .int v2), (3, .int x63)]) [1, 2, 3, 0] rfl ?_
          exact ih v2 x63
        · refine v_aload_n (i := 0) hc 0 rfl dX9_age_48 rfl ?_
          refine v_getV hc kX9 0 (by decide) w_1131 rfl dX9_age_49 (gR rfl fun x49 => ?_)
          refine v_sipush (x := (2230 : Int32)) hc dX9_age_52 zs_2230 ?_
          refine v_iconst (x := (3 : Int32)) hc dX9_age_55 zi_3 ?_
          refine v_iload_n (i := 3) hc 3 rfl dX9_age_56 rfl ?_
          refine v_imul hc dX9_age_57 ?_
          refine v_iadd hc dX9_age_58 ?_
          refine v_iconst (x := (1 : Int32)) hc dX9_age_59 zi_1 ?_
          refine v_iadd hc dX9_age_60 ?_
          refine v_iald hc dX9_age_61 fun x61 => ?_
          refine v_istore_n (i := 2) (L' := [(2, .int x61), (0, .ref v0), (1, .int v1), (3, .int v3)]) hc dX9_age_62 rfl (hn 2 (Nat.le_of_ble_eq_true rfl)) rfl ?_
          refine v_iincN (i := 3) (y := (1 : Int32)) (L' := fun z => [(3, .int z), (2, .int x61), (0, .ref v0), (1, .int v1)]) hc 3 rfl dX9_age_63 zi_1 (hn 3 (Nat.le_of_ble_eq_true rfl)) (fun _ => rfl) fun x63 => ?_
          refine v_goto hc 4 dX9_age_66 rfl ?_
          refine v_sub (L' := [(0, .ref v0), (1, .int v1), (2, .int x61), (3, .int x63)]) [2, 3, 1, 0] rfl ?_
          exact ih x61 x63
def f9_age (h : AH) (this : Nat) (p0 : Int32) : Option (Int32) := (hObj 9 h this).bind fun _ => f9_age_4 h this p0 FU (0 : Int32) (0 : Int32)
theorem ob9_age {h : AH} {this : Nat} {p0 : Int32} {x : Int32} (e : f9_age h this p0 = some x) : ∃ fs, hObj 9 h this = some fs := by
  unfold f9_age at e
  obtain ⟨fs, h1, -⟩ := bd e
  exact ⟨fs, h1⟩
set_option maxRecDepth 100000 in
theorem ct9_age (l : Launch) (D : va_G) (tys : Tys) (base : Nat) (h : AH) (this : Nat) (p0 : Int32) : Ct l D tys base yX9_age cX9_age 4 (some .int) 0 0 0 0 [.ref this, .int p0] h (rI h) (f9_age h this p0) := by
  refine Ct.intro (own := RX9) (L := [(0, .ref this), (1, .int p0)]) rfl (by decide) rfl (Nat.le_of_ble_eq_true rfl) fun κ hc hr hq hi hL => ?_
  have hn : ∀ i, i < 4 → i < κ.2.2.2.2.1 := fun i q => hL ▸ q
  unfold f9_age
  refine v_obj ?_
  refine v_iconst (x := (0 : Int32)) hc dX9_age_0 zi_0 ?_
  refine v_istore_n (i := 2) (L' := [(2, .int (0 : Int32)), (0, .ref this), (1, .int p0)]) hc dX9_age_1 rfl (hn 2 (Nat.le_of_ble_eq_true rfl)) rfl ?_
  refine v_iconst (x := (0 : Int32)) hc dX9_age_2 zi_0 ?_
  refine v_istore_n (i := 3) (L' := [(3, .int (0 : Int32)), (2, .int (0 : Int32)), (0, .ref this), (1, .int p0)]) hc dX9_age_3 rfl (hn 3 (Nat.le_of_ble_eq_true rfl)) rfl ?_
  refine v_sub (L' := [(0, .ref this), (1, .int p0), (2, .int (0 : Int32)), (3, .int (0 : Int32))]) [2, 3, 1, 0] rfl ?_
  exact vl9_age_4 hc hr hq hL h this p0 FU (0 : Int32) (0 : Int32)
theorem s9_age : YV yX9_age RX9 cX9_age 4 (some .int) 1 := ⟨w_1326, w_1325, w_57, w_118, rfl, by decide +kernel, by decide +kernel, by decide +kernel⟩
def f9_pieceCell (h : AH) (this : Nat) (p0 : Int32) (p1 : Int32) : Option (Int32) := (hObj 9 h this).bind fun _ => (fR 9 0 h this).bind fun x1 => (aI 0 h x1 (((1330 : Int32) + ((10 : Int32) * p0)) + p1)).bind fun x14 => some x14
theorem ob9_pieceCell {h : AH} {this : Nat} {p0 : Int32} {p1 : Int32} {x : Int32} (e : f9_pieceCell h this p0 p1 = some x) : ∃ fs, hObj 9 h this = some fs := by
  unfold f9_pieceCell at e
  obtain ⟨fs, h1, -⟩ := bd e
  exact ⟨fs, h1⟩
set_option maxRecDepth 100000 in
theorem ct9_pieceCell (l : Launch) (D : va_G) (tys : Tys) (base : Nat) (h : AH) (this : Nat) (p0 : Int32) (p1 : Int32) : Ct l D tys base yX9_pieceCell cX9_pieceCell 3 (some .int) 0 0 0 0 [.ref this, .int p0, .int p1] h (rI h) (f9_pieceCell h this p0 p1) := by
  refine Ct.intro (own := RX9) (L := [(0, .ref this), (1, .int p0), (2, .int p1)]) rfl (by decide) rfl (Nat.le_of_ble_eq_true rfl) fun κ hc hr hq hi hL => ?_
  have hn : ∀ i, i < 3 → i < κ.2.2.2.2.1 := fun i q => hL ▸ q
  unfold f9_pieceCell
  refine v_obj ?_
  refine v_aload_n (i := 0) hc 0 rfl dX9_pieceCell_0 rfl ?_
  refine v_getV hc kX9 0 (by decide) w_1131 rfl dX9_pieceCell_1 (gR rfl fun x1 => ?_)
  refine v_sipush (x := (1330 : Int32)) hc dX9_pieceCell_4 zs_1330 ?_
  refine v_bipush (x := (10 : Int32)) hc dX9_pieceCell_7 zb_10 ?_
  refine v_iload_n (i := 1) hc 1 rfl dX9_pieceCell_9 rfl ?_
  refine v_imul hc dX9_pieceCell_10 ?_
  refine v_iadd hc dX9_pieceCell_11 ?_
  refine v_iload_n (i := 2) hc 2 rfl dX9_pieceCell_12 rfl ?_
  refine v_iadd hc dX9_pieceCell_13 ?_
  refine v_iald hc dX9_pieceCell_14 fun x14 => ?_
  exact v_iret hc hq rfl rfl (Nat.le_of_ble_eq_true rfl) (Nat.le_of_ble_eq_true rfl) rfl dX9_pieceCell_15
theorem s9_pieceCell : YV yX9_pieceCell RX9 cX9_pieceCell 3 (some .int) 2 := ⟨w_1330, w_1329, w_58, w_118, rfl, by decide +kernel, by decide +kernel, by decide +kernel⟩
def f9_young_4 (h : AH) (v0 : Nat) (v1 : Int32) : Nat → Int32 → Int32 → Option (Int32)
  | 0, _, _ => none
  | n + 1, v2, v3 => (fR 9 0 h v0).bind fun x6 => (aI 0 h x6 (1 : Int32)).bind fun x10 => (if x10 ≤ v3 then some v2 else (f9_pieceCell h v0 v1 (6 : Int32)).bind fun x18 => (if ((x18 >>> (v3 &&& 31)) &&& (1 : Int32)) = (1 : Int32) then (fR 9 0 h v0).bind fun x30 => (aI 0 h x30 ((10 : Int32) + ((2 : Int32) * v3))).bind fun x39 => (f9_age h v0 v1).bind fun x42 => (if x39 ≤ x42 then (some (v3 + (1 : Int32))).bind fun x54 => f9_young_4 h v0 v1 n v2 x54 else (some (v2 ||| ((1 : Int32) <<< (v3 &&& 31)))).bind fun x53 => (some (v3 + (1 : Int32))).bind fun x54 => f9_young_4 h v0 v1 n x53 x54) else (some (v3 + (1 : Int32))).bind fun x54 => f9_young_4 h v0 v1 n v2 x54))
set_option maxRecDepth 100000 in
theorem vl9_young_4 {κ : Kx} (hc : CX κ RX9 cX9_young) (hr : RX κ ({ frames := 1, cells := 0, slots := 0, locals := 23 } : Room)) (hq : QX κ (some .int) 0 0) (hL : 4 = κ.2.2.2.2.1)  (h : AH) (v0 : Nat) (v1 : Int32) : ∀ n (v2 : Int32) (v3 : Int32), V κ (rI h) 0 0 4 [(0, .ref v0), (1, .int v1), (2, .int v2), (3, .int v3)] [] h (f9_young_4 h v0 v1 n v2 v3) := by
  have hn : ∀ i, i < 4 → i < κ.2.2.2.2.1 := fun i q => hL ▸ q
  intro n
  induction n with
  | zero => intros; exact v_none
  | succ n ih =>
    intro v2 v3
    rw [f9_young_4.eq_2]
    refine v_iload_n (i := 3) hc 3 rfl dX9_young_4 rfl ?_
    refine v_aload_n (i := 0) hc 0 rfl dX9_young_5 rfl ?_
    refine v_getV hc kX9 0 (by decide) w_1131 rfl dX9_young_6 (gR rfl fun x6 => ?_)
    refine v_iconst (x := (1 : Int32)) hc dX9_young_9 zi_1 ?_
    refine v_iald hc dX9_young_10 fun x10 => ?_
    refine v_icmp_ge hc 60 dX9_young_11 rfl ?_ ?_
    · refine v_iload_n (i := 2) hc 2 rfl dX9_young_60 rfl ?_
      exact v_iret hc hq rfl rfl (Nat.le_of_ble_eq_true rfl) (Nat.le_of_ble_eq_true rfl) rfl dX9_young_61
    · refine v_aload_n (i := 0) hc 0 rfl dX9_young_14 rfl ?_
      refine v_iload_n (i := 1) hc 1 rfl dX9_young_15 rfl ?_
      refine v_bipush (x := (6 : Int32)) hc dX9_young_16 zb_6 ?_
      refine v_cI hc (m_V' (As := [.int v1, .int (6 : Int32)]) (b := v0) (rest := []) 2 hc hr (fun l D tys base => ct9_pieceCell l D tys base h v0 v1 (6 : Int32)) (fun x hx => ob9_pieceCell hx) rfl s9_pieceCell w_1327 rfl ⟨Nat.le_of_ble_eq_true rfl, Nat.le_of_ble_eq_true rfl⟩ ⟨Nat.le_of_ble_eq_true rfl, Nat.le_of_ble_eq_true rfl⟩ (Nat.le_of_ble_eq_true rfl) dX9_young_18) fun x18 => ?_
      refine v_iload_n (i := 3) hc 3 rfl dX9_young_21 rfl ?_
      refine v_ishr hc dX9_young_22 ?_
      refine v_iconst (x := (1 : Int32)) hc dX9_young_23 zi_1 ?_
      refine v_iand hc dX9_young_24 ?_
      refine v_iconst (x := (1 : Int32)) hc dX9_young_25 zi_1 ?_
      refine v_icmp_ne hc 54 dX9_young_26 rfl ?_ ?_
      · refine v_iincN (i := 3) (y := (1 : Int32)) (L' := fun z => [(3, .int z), (0, .ref v0), (1, .int v1), (2, .int v2)]) hc 3 rfl dX9_young_54 zi_1 (hn 3 (Nat.le_of_ble_eq_true rfl)) (fun _ => rfl) fun x54 => ?_
        refine v_goto hc 4 dX9_young_57 rfl ?_
        refine v_sub (L' := [(0, .ref v0), (1, .int v1), (2, .int v2), (3, .int x54)]) [1, 2, 3, 0] rfl ?_
        exact ih v2 x54
      · refine v_aload_n (i := 0) hc 0 rfl dX9_young_29 rfl ?_
        refine v_getV hc kX9 0 (by decide) w_1131 rfl dX9_young_30 (gR rfl fun x30 => ?_)
        refine v_bipush (x := (10 : Int32)) hc dX9_young_33 zb_10 ?_
        refine v_iconst (x := (2 : Int32)) hc dX9_young_35 zi_2 ?_
        refine v_iload_n (i := 3) hc 3 rfl dX9_young_36 rfl ?_
        refine v_imul hc dX9_young_37 ?_
        refine v_iadd hc dX9_young_38 ?_
        refine v_iald hc dX9_young_39 fun x39 => ?_
        refine v_aload_n (i := 0) hc 0 rfl dX9_young_40 rfl ?_
        refine v_iload_n (i := 1) hc 1 rfl dX9_young_41 rfl ?_
        refine v_cI hc (m_V' (As := [.int v1]) (b := v0) (rest := [.int x39]) 1 hc hr (fun l D tys base => ct9_age l D tys base h v0 v1) (fun x hx => ob9_age hx) rfl s9_age w_1323 rfl ⟨Nat.le_of_ble_eq_true rfl, Nat.le_of_ble_eq_true rfl⟩ ⟨Nat.le_of_ble_eq_true rfl, Nat.le_of_ble_eq_true rfl⟩ (Nat.le_of_ble_eq_true rfl) dX9_young_42) fun x42 => ?_
        refine v_icmp_le hc 54 dX9_young_45 rfl ?_ ?_
        · refine v_iincN (i := 3) (y := (1 : Int32)) (L' := fun z => [(3, .int z), (0, .ref v0), (1, .int v1), (2, .int v2)]) hc 3 rfl dX9_young_54 zi_1 (hn 3 (Nat.le_of_ble_eq_true rfl)) (fun _ => rfl) fun x54 => ?_
          refine v_goto hc 4 dX9_young_57 rfl ?_
          refine v_sub (L' := [(0, .ref v0), (1, .int v1), (2, .int v2), (3, .int x54)]) [1, 2, 3, 0] rfl ?_
          exact ih v2 x54
        · refine v_iload_n (i := 2) hc 2 rfl dX9_young_48 rfl ?_
          refine v_iconst (x := (1 : Int32)) hc dX9_young_49 zi_1 ?_
          refine v_iload_n (i := 3) hc 3 rfl dX9_young_50 rfl ?_
          refine v_ishl hc dX9_young_51 ?_
          refine v_ior hc dX9_young_52 ?_
          refine v_nmI fun x53 => ?_
          refine v_istore_n (i := 2) (L' := [(2, .int x53), (0, .ref v0), (1, .int v1), (3, .int v3)]) hc dX9_young_53 rfl (hn 2 (Nat.le_of_ble_eq_true rfl)) rfl ?_
          refine v_iincN (i := 3) (y := (1 : Int32)) (L' := fun z => [(3, .int z), (2, .int x53), (0, .ref v0), (1, .int v1)]) hc 3 rfl dX9_young_54 zi_1 (hn 3 (Nat.le_of_ble_eq_true rfl)) (fun _ => rfl) fun x54 => ?_
          refine v_goto hc 4 dX9_young_57 rfl ?_
          refine v_sub (L' := [(0, .ref v0), (1, .int v1), (2, .int x53), (3, .int x54)]) [2, 3, 1, 0] rfl ?_
          exact ih x53 x54
def f9_young (h : AH) (this : Nat) (p0 : Int32) : Option (Int32) := (hObj 9 h this).bind fun _ => f9_young_4 h this p0 FU (0 : Int32) (0 : Int32)
theorem ob9_young {h : AH} {this : Nat} {p0 : Int32} {x : Int32} (e : f9_young h this p0 = some x) : ∃ fs, hObj 9 h this = some fs := by
  unfold f9_young at e
  obtain ⟨fs, h1, -⟩ := bd e
  exact ⟨fs, h1⟩
set_option maxRecDepth 100000 in
theorem ct9_young (l : Launch) (D : va_G) (tys : Tys) (base : Nat) (h : AH) (this : Nat) (p0 : Int32) : Ct l D tys base yX9_young cX9_young 4 (some .int) 1 23 0 0 [.ref this, .int p0] h (rI h) (f9_young h this p0) := by
  refine Ct.intro (own := RX9) (L := [(0, .ref this), (1, .int p0)]) rfl (by decide) rfl (Nat.le_of_ble_eq_true rfl) fun κ hc hr hq hi hL => ?_
  have hn : ∀ i, i < 4 → i < κ.2.2.2.2.1 := fun i q => hL ▸ q
  unfold f9_young
  refine v_obj ?_
  refine v_iconst (x := (0 : Int32)) hc dX9_young_0 zi_0 ?_
  refine v_istore_n (i := 2) (L' := [(2, .int (0 : Int32)), (0, .ref this), (1, .int p0)]) hc dX9_young_1 rfl (hn 2 (Nat.le_of_ble_eq_true rfl)) rfl ?_
  refine v_iconst (x := (0 : Int32)) hc dX9_young_2 zi_0 ?_
  refine v_istore_n (i := 3) (L' := [(3, .int (0 : Int32)), (2, .int (0 : Int32)), (0, .ref this), (1, .int p0)]) hc dX9_young_3 rfl (hn 3 (Nat.le_of_ble_eq_true rfl)) rfl ?_
  refine v_sub (L' := [(0, .ref this), (1, .int p0), (2, .int (0 : Int32)), (3, .int (0 : Int32))]) [2, 3, 1, 0] rfl ?_
  exact vl9_young_4 hc hr hq hL h this p0 FU (0 : Int32) (0 : Int32)
theorem s9_young : YV yX9_young RX9 cX9_young 4 (some .int) 1 := ⟨w_1334, w_1333, w_59, w_118, rfl, by decide +kernel, by decide +kernel, by decide +kernel⟩
def f9_of (h : AH) (this : Nat) (p0 : Int32) (p1 : Int32) : Option (Int32) := (hObj 9 h this).bind fun _ => (f9_isPiece h this p0).bind fun x2 => (if x2 = true then (f9_in h p1.toInt64 (0 : Int64) (7 : Int64)).bind fun x14 => (if x14 = true then (if (4 : Int32) ≤ p1 then (if p1 = (4 : Int32) then (f9_age h this p0).bind fun x43 => some x43 else (if p1 = (5 : Int32) then (f9_pieceCell h this p0 (8 : Int32)).bind fun x58 => some x58 else (if p1 = (6 : Int32) then (f9_pieceCell h this p0 (6 : Int32)).bind fun x74 => some x74 else (f9_young h this p0).bind fun x82 => some x82))) else (f9_pagesOf h this p0 p1).bind fun x30 => some x30) else some (-1 : Int32)) else some (-1 : Int32))
theorem ob9_of {h : AH} {this : Nat} {p0 : Int32} {p1 : Int32} {x : Int32} (e : f9_of h this p0 p1 = some x) : ∃ fs, hObj 9 h this = some fs := by
  unfold f9_of at e
  obtain ⟨fs, h1, -⟩ := bd e
  exact ⟨fs, h1⟩
set_option maxRecDepth 100000 in
theorem ct9_of (l : Launch) (D : va_G) (tys : Tys) (base : Nat) (h : AH) (this : Nat) (p0 : Int32) (p1 : Int32) : Ct l D tys base yX9_of cX9_of 3 (some .int) 5 113 0 0 [.ref this, .int p0, .int p1] h (rI h) (f9_of h this p0 p1) := by
  refine Ct.intro (own := RX9) (L := [(0, .ref this), (1, .int p0), (2, .int p1)]) rfl (by decide) rfl (Nat.le_of_ble_eq_true rfl) fun κ hc hr hq hi hL => ?_
  have hn : ∀ i, i < 3 → i < κ.2.2.2.2.1 := fun i q => hL ▸ q
  unfold f9_of
  refine v_obj ?_
  refine v_aload_n (i := 0) hc 0 rfl dX9_of_0 rfl ?_
  refine v_iload_n (i := 1) hc 1 rfl dX9_of_1 rfl ?_
  refine v_cB hc (m_V' (As := [.int p0]) (b := this) (rest := []) 1 hc hr (fun l D tys base => ct9_isPiece l D tys base h this p0) (fun x hx => ob9_isPiece hx) rfl s9_isPiece w_1286 rfl ⟨Nat.le_of_ble_eq_true rfl, Nat.le_of_ble_eq_true rfl⟩ ⟨Nat.le_of_ble_eq_true rfl, Nat.le_of_ble_eq_true rfl⟩ (Nat.le_of_ble_eq_true rfl) dX9_of_2) fun x2 => ?_
  refine v_ifb_eq hc 20 dX9_of_5 rfl ?_ ?_
  · refine v_iconst (x := (-1 : Int32)) hc dX9_of_20 zi_m1 ?_
    exact v_iret hc hq rfl rfl (Nat.le_of_ble_eq_true rfl) (Nat.le_of_ble_eq_true rfl) rfl dX9_of_21
  · refine v_iload_n (i := 2) hc 2 rfl dX9_of_8 rfl ?_
    refine v_i2l hc dX9_of_9 ?_
    refine v_lconst (x := (0 : Int64)) hc dX9_of_10 (by decide) ?_
    refine v_ldc2 (x := (7 : Int64)) hc w_1302 dX9_of_11 ?_
    refine v_cB hc (m_S' (As := [.long p1.toInt64, .long (0 : Int64), .long (7 : Int64)]) (rest := []) 3 hc hr (fun l D tys base => ct9_in l D tys base h p1.toInt64 (0 : Int64) (7 : Int64)) s9_in w_1246 rfl ⟨Nat.le_of_ble_eq_true rfl, Nat.le_of_ble_eq_true rfl⟩ ⟨Nat.le_of_ble_eq_true rfl, Nat.le_of_ble_eq_true rfl⟩ (Nat.le_of_ble_eq_true rfl) dX9_of_14) fun x14 => ?_
    refine v_ifb_ne hc 22 dX9_of_17 rfl ?_ ?_
    · refine v_iload_n (i := 2) hc 2 rfl dX9_of_22 rfl ?_
      refine v_iconst (x := (4 : Int32)) hc dX9_of_23 zi_4 ?_
      refine v_icmp_ge hc 36 dX9_of_24 rfl ?_ ?_
      · refine v_iload_n (i := 2) hc 2 rfl dX9_of_36 rfl ?_
        refine v_iconst (x := (4 : Int32)) hc dX9_of_37 zi_4 ?_
        refine v_icmp_ne hc 49 dX9_of_38 rfl ?_ ?_
        · refine v_iload_n (i := 2) hc 2 rfl dX9_of_49 rfl ?_
          refine v_iconst (x := (5 : Int32)) hc dX9_of_50 zi_5 ?_
          refine v_icmp_ne hc 64 dX9_of_51 rfl ?_ ?_
          · refine v_iload_n (i := 2) hc 2 rfl dX9_of_64 rfl ?_
            refine v_bipush (x := (6 : Int32)) hc dX9_of_65 zb_6 ?_
            refine v_icmp_ne hc 80 dX9_of_67 rfl ?_ ?_
            · refine v_aload_n (i := 0) hc 0 rfl dX9_of_80 rfl ?_
              refine v_iload_n (i := 1) hc 1 rfl dX9_of_81 rfl ?_
              refine v_cI hc (m_V' (As := [.int p0]) (b := this) (rest := []) 1 hc hr (fun l D tys base => ct9_young l D tys base h this p0) (fun x hx => ob9_young hx) rfl s9_young w_1331 rfl ⟨Nat.le_of_ble_eq_true rfl, Nat.le_of_ble_eq_true rfl⟩ ⟨Nat.le_of_ble_eq_true rfl, Nat.le_of_ble_eq_true rfl⟩ (Nat.le_of_ble_eq_true rfl) dX9_of_82) fun x82 => ?_
              exact v_iret hc hq rfl rfl (Nat.le_of_ble_eq_true rfl) (Nat.le_of_ble_eq_true rfl) rfl dX9_of_85
            · refine v_aload_n (i := 0) hc 0 rfl dX9_of_70 rfl ?_
              refine v_iload_n (i := 1) hc 1 rfl dX9_of_71 rfl ?_
              refine v_bipush (x := (6 : Int32)) hc dX9_of_72 zb_6 ?_
              refine v_cI hc (m_V' (As := [.int p0, .int (6 : Int32)]) (b := this) (rest := []) 2 hc hr (fun l D tys base => ct9_pieceCell l D tys base h this p0 (6 : Int32)) (fun x hx => ob9_pieceCell hx) rfl s9_pieceCell w_1327 rfl ⟨Nat.le_of_ble_eq_true rfl, Nat.le_of_ble_eq_true rfl⟩ ⟨Nat.le_of_ble_eq_true rfl, Nat.le_of_ble_eq_true rfl⟩ (Nat.le_of_ble_eq_true rfl) dX9_of_74) fun x74 => ?_
              refine v_goto hc 85 dX9_of_77 rfl ?_
              exact v_iret hc hq rfl rfl (Nat.le_of_ble_eq_true rfl) (Nat.le_of_ble_eq_true rfl) rfl dX9_of_85
          · refine v_aload_n (i := 0) hc 0 rfl dX9_of_54 rfl ?_
            refine v_iload_n (i := 1) hc 1 rfl dX9_of_55 rfl ?_
            refine v_bipush (x := (8 : Int32)) hc dX9_of_56 zb_8 ?_
            refine v_cI hc (m_V' (As := [.int p0, .int (8 : Int32)]) (b := this) (rest := []) 2 hc hr (fun l D tys base => ct9_pieceCell l D tys base h this p0 (8 : Int32)) (fun x hx => ob9_pieceCell hx) rfl s9_pieceCell w_1327 rfl ⟨Nat.le_of_ble_eq_true rfl, Nat.le_of_ble_eq_true rfl⟩ ⟨Nat.le_of_ble_eq_true rfl, Nat.le_of_ble_eq_true rfl⟩ (Nat.le_of_ble_eq_true rfl) dX9_of_58) fun x58 => ?_
            refine v_goto hc 85 dX9_of_61 rfl ?_
            exact v_iret hc hq rfl rfl (Nat.le_of_ble_eq_true rfl) (Nat.le_of_ble_eq_true rfl) rfl dX9_of_85
        · refine v_aload_n (i := 0) hc 0 rfl dX9_of_41 rfl ?_
          refine v_iload_n (i := 1) hc 1 rfl dX9_of_42 rfl ?_
          refine v_cI hc (m_V' (As := [.int p0]) (b := this) (rest := []) 1 hc hr (fun l D tys base => ct9_age l D tys base h this p0) (fun x hx => ob9_age hx) rfl s9_age w_1323 rfl ⟨Nat.le_of_ble_eq_true rfl, Nat.le_of_ble_eq_true rfl⟩ ⟨Nat.le_of_ble_eq_true rfl, Nat.le_of_ble_eq_true rfl⟩ (Nat.le_of_ble_eq_true rfl) dX9_of_43) fun x43 => ?_
          refine v_goto hc 85 dX9_of_46 rfl ?_
          exact v_iret hc hq rfl rfl (Nat.le_of_ble_eq_true rfl) (Nat.le_of_ble_eq_true rfl) rfl dX9_of_85
      · refine v_aload_n (i := 0) hc 0 rfl dX9_of_27 rfl ?_
        refine v_iload_n (i := 1) hc 1 rfl dX9_of_28 rfl ?_
        refine v_iload_n (i := 2) hc 2 rfl dX9_of_29 rfl ?_
        refine v_cI hc (m_V' (As := [.int p0, .int p1]) (b := this) (rest := []) 2 hc hr (fun l D tys base => ct9_pagesOf l D tys base h this p0 p1) (fun x hx => ob9_pagesOf hx) rfl s9_pagesOf w_1303 rfl ⟨Nat.le_of_ble_eq_true rfl, Nat.le_of_ble_eq_true rfl⟩ ⟨Nat.le_of_ble_eq_true rfl, Nat.le_of_ble_eq_true rfl⟩ (Nat.le_of_ble_eq_true rfl) dX9_of_30) fun x30 => ?_
        refine v_goto hc 85 dX9_of_33 rfl ?_
        exact v_iret hc hq rfl rfl (Nat.le_of_ble_eq_true rfl) (Nat.le_of_ble_eq_true rfl) rfl dX9_of_85
    · refine v_iconst (x := (-1 : Int32)) hc dX9_of_20 zi_m1 ?_
      exact v_iret hc hq rfl rfl (Nat.le_of_ble_eq_true rfl) (Nat.le_of_ble_eq_true rfl) rfl dX9_of_21
theorem s9_of : YV yX9_of RX9 cX9_of 3 (some .int) 2 := ⟨w_1301, w_1299, w_1300, w_118, rfl, by decide +kernel, by decide +kernel, by decide +kernel⟩
def f9_sharedWith_5 (h : AH) (v0 : Nat) (v1 : Int32) (v2 : Int32) : Nat → Int32 → Int32 → Option (Int32)
  | 0, _, _ => none
  | n + 1, v3, v4 => (fR 9 0 h v0).bind fun x8 => (aI 0 h x8 (5 : Int32)).bind fun x12 => (if x12 ≤ v4 then some v3 else (fR 9 0 h v0).bind fun x18 => (aI 0 h x18 ((2230 : Int32) + ((3 : Int32) * v4))).bind fun x29 => (if x29 = v1 then (f9_isShared h v0 v4 v2).bind fun x38 => (if x38 = true then (some (v3 + (1 : Int32))).bind fun x50 => (some (v4 + (1 : Int32))).bind fun x51 => f9_sharedWith_5 h v0 v1 v2 n x50 x51 else (some (v3 + (0 : Int32))).bind fun x50 => (some (v4 + (1 : Int32))).bind fun x51 => f9_sharedWith_5 h v0 v1 v2 n x50 x51) else (some (v3 + (0 : Int32))).bind fun x50 => (some (v4 + (1 : Int32))).bind fun x51 => f9_sharedWith_5 h v0 v1 v2 n x50 x51))
set_option maxRecDepth 100000 in
theorem vl9_sharedWith_5 {κ : Kx} (hc : CX κ RX9 cX9_sharedWith) (hr : RX κ ({ frames := 3, cells := 0, slots := 0, locals := 66 } : Room)) (hq : QX κ (some .int) 0 0) (hL : 5 = κ.2.2.2.2.1)  (h : AH) (v0 : Nat) (v1 : Int32) (v2 : Int32) : ∀ n (v3 : Int32) (v4 : Int32), V κ (rI h) 0 0 5 [(0, .ref v0), (1, .int v1), (2, .int v2), (3, .int v3), (4, .int v4)] [] h (f9_sharedWith_5 h v0 v1 v2 n v3 v4) := by
  have hn : ∀ i, i < 5 → i < κ.2.2.2.2.1 := fun i q => hL ▸ q
  intro n
  induction n with
  | zero => intros; exact v_none
  | succ n ih =>
    intro v3 v4
    rw [f9_sharedWith_5.eq_2]
    refine v_iload (i := 4) hc 4 rfl dX9_sharedWith_5 ?_
    refine v_aload_n (i := 0) hc 0 rfl dX9_sharedWith_7 rfl ?_
    refine v_getV hc kX9 0 (by decide) w_1131 rfl dX9_sharedWith_8 (gR rfl fun x8 => ?_)
    refine v_iconst (x := (5 : Int32)) hc dX9_sharedWith_11 zi_5 ?_
    refine v_iald hc dX9_sharedWith_12 fun x12 => ?_
    refine v_icmp_ge hc 57 dX9_sharedWith_13 rfl ?_ ?_
    · refine v_iload_n (i := 3) hc 3 rfl dX9_sharedWith_57 rfl ?_
      exact v_iret hc hq rfl rfl (Nat.le_of_ble_eq_true rfl) (Nat.le_of_ble_eq_true rfl) rfl dX9_sharedWith_58
    · refine v_iload_n (i := 3) hc 3 rfl dX9_sharedWith_16 rfl ?_
      refine v_aload_n (i := 0) hc 0 rfl dX9_sharedWith_17 rfl ?_
      refine v_getV hc kX9 0 (by decide) w_1131 rfl dX9_sharedWith_18 (gR rfl fun x18 => ?_)
      refine v_sipush (x := (2230 : Int32)) hc dX9_sharedWith_21 zs_2230 ?_
      refine v_iconst (x := (3 : Int32)) hc dX9_sharedWith_24 zi_3 ?_
      refine v_iload (i := 4) hc 4 rfl dX9_sharedWith_25 ?_
      refine v_imul hc dX9_sharedWith_27 ?_
      refine v_iadd hc dX9_sharedWith_28 ?_
      refine v_iald hc dX9_sharedWith_29 fun x29 => ?_
      refine v_iload_n (i := 1) hc 1 rfl dX9_sharedWith_30 rfl ?_
      refine v_icmp_ne hc 48 dX9_sharedWith_31 rfl ?_ ?_
      · refine v_iconst (x := (0 : Int32)) hc dX9_sharedWith_48 zi_0 ?_
        refine v_iadd hc dX9_sharedWith_49 ?_
        refine v_nmI fun x50 => ?_
        refine v_istore_n (i := 3) (L' := [(3, .int x50), (0, .ref v0), (1, .int v1), (2, .int v2), (4, .int v4)]) hc dX9_sharedWith_50 rfl (hn 3 (Nat.le_of_ble_eq_true rfl)) rfl ?_
        refine v_iincN (i := 4) (y := (1 : Int32)) (L' := fun z => [(4, .int z), (3, .int x50), (0, .ref v0), (1, .int v1), (2, .int v2)]) hc 4 rfl dX9_sharedWith_51 zi_1 (hn 4 (Nat.le_of_ble_eq_true rfl)) (fun _ => rfl) fun x51 => ?_
        refine v_goto hc 5 dX9_sharedWith_54 rfl ?_
        refine v_sub (L' := [(0, .ref v0), (1, .int v1), (2, .int v2), (3, .int x50), (4, .int x51)]) [2, 3, 4, 1, 0] rfl ?_
        exact ih x50 x51
      · refine v_aload_n (i := 0) hc 0 rfl dX9_sharedWith_34 rfl ?_
        refine v_iload (i := 4) hc 4 rfl dX9_sharedWith_35 ?_
        refine v_iload_n (i := 2) hc 2 rfl dX9_sharedWith_37 rfl ?_
        refine v_cB hc (m_V' (As := [.int v4, .int v2]) (b := v0) (rest := [.int v3]) 2 hc hr (fun l D tys base => ct9_isShared l D tys base h v0 v4 v2) (fun x hx => ob9_isShared hx) rfl s9_isShared w_1315 rfl ⟨Nat.le_of_ble_eq_true rfl, Nat.le_of_ble_eq_true rfl⟩ ⟨Nat.le_of_ble_eq_true rfl, Nat.le_of_ble_eq_true rfl⟩ (Nat.le_of_ble_eq_true rfl) dX9_sharedWith_38) fun x38 => ?_
        refine v_ifb_eq hc 48 dX9_sharedWith_41 rfl ?_ ?_
        · refine v_iconst (x := (0 : Int32)) hc dX9_sharedWith_48 zi_0 ?_
          refine v_iadd hc dX9_sharedWith_49 ?_
          refine v_nmI fun x50 => ?_
          refine v_istore_n (i := 3) (L' := [(3, .int x50), (0, .ref v0), (1, .int v1), (2, .int v2), (4, .int v4)]) hc dX9_sharedWith_50 rfl (hn 3 (Nat.le_of_ble_eq_true rfl)) rfl ?_
          refine v_iincN (i := 4) (y := (1 : Int32)) (L' := fun z => [(4, .int z), (3, .int x50), (0, .ref v0), (1, .int v1), (2, .int v2)]) hc 4 rfl dX9_sharedWith_51 zi_1 (hn 4 (Nat.le_of_ble_eq_true rfl)) (fun _ => rfl) fun x51 => ?_
          refine v_goto hc 5 dX9_sharedWith_54 rfl ?_
          refine v_sub (L' := [(0, .ref v0), (1, .int v1), (2, .int v2), (3, .int x50), (4, .int x51)]) [2, 3, 4, 1, 0] rfl ?_
          exact ih x50 x51
        · refine v_iconst (x := (1 : Int32)) hc dX9_sharedWith_44 zi_1 ?_
          refine v_goto hc 49 dX9_sharedWith_45 rfl ?_
          refine v_iadd hc dX9_sharedWith_49 ?_
          refine v_nmI fun x50 => ?_
          refine v_istore_n (i := 3) (L' := [(3, .int x50), (0, .ref v0), (1, .int v1), (2, .int v2), (4, .int v4)]) hc dX9_sharedWith_50 rfl (hn 3 (Nat.le_of_ble_eq_true rfl)) rfl ?_
          refine v_iincN (i := 4) (y := (1 : Int32)) (L' := fun z => [(4, .int z), (3, .int x50), (0, .ref v0), (1, .int v1), (2, .int v2)]) hc 4 rfl dX9_sharedWith_51 zi_1 (hn 4 (Nat.le_of_ble_eq_true rfl)) (fun _ => rfl) fun x51 => ?_
          refine v_goto hc 5 dX9_sharedWith_54 rfl ?_
          refine v_sub (L' := [(0, .ref v0), (1, .int v1), (2, .int v2), (3, .int x50), (4, .int x51)]) [2, 3, 4, 1, 0] rfl ?_
          exact ih x50 x51
def f9_sharedWith (h : AH) (this : Nat) (p0 : Int32) (p1 : Int32) : Option (Int32) := (hObj 9 h this).bind fun _ => f9_sharedWith_5 h this p0 p1 FU (0 : Int32) (0 : Int32)
theorem ob9_sharedWith {h : AH} {this : Nat} {p0 : Int32} {p1 : Int32} {x : Int32} (e : f9_sharedWith h this p0 p1 = some x) : ∃ fs, hObj 9 h this = some fs := by
  unfold f9_sharedWith at e
  obtain ⟨fs, h1, -⟩ := bd e
  exact ⟨fs, h1⟩
set_option maxRecDepth 100000 in
theorem ct9_sharedWith (l : Launch) (D : va_G) (tys : Tys) (base : Nat) (h : AH) (this : Nat) (p0 : Int32) (p1 : Int32) : Ct l D tys base yX9_sharedWith cX9_sharedWith 5 (some .int) 3 66 0 0 [.ref this, .int p0, .int p1] h (rI h) (f9_sharedWith h this p0 p1) := by
  refine Ct.intro (own := RX9) (L := [(0, .ref this), (1, .int p0), (2, .int p1)]) rfl (by decide) rfl (Nat.le_of_ble_eq_true rfl) fun κ hc hr hq hi hL => ?_
  have hn : ∀ i, i < 5 → i < κ.2.2.2.2.1 := fun i q => hL ▸ q
  unfold f9_sharedWith
  refine v_obj ?_
  refine v_iconst (x := (0 : Int32)) hc dX9_sharedWith_0 zi_0 ?_
  refine v_istore_n (i := 3) (L' := [(3, .int (0 : Int32)), (0, .ref this), (1, .int p0), (2, .int p1)]) hc dX9_sharedWith_1 rfl (hn 3 (Nat.le_of_ble_eq_true rfl)) rfl ?_
  refine v_iconst (x := (0 : Int32)) hc dX9_sharedWith_2 zi_0 ?_
  refine v_istore (i := 4) (L' := [(4, .int (0 : Int32)), (3, .int (0 : Int32)), (0, .ref this), (1, .int p0), (2, .int p1)]) hc dX9_sharedWith_3 (hn 4 (Nat.le_of_ble_eq_true rfl)) rfl ?_
  refine v_sub (L' := [(0, .ref this), (1, .int p0), (2, .int p1), (3, .int (0 : Int32)), (4, .int (0 : Int32))]) [2, 3, 4, 1, 0] rfl ?_
  exact vl9_sharedWith_5 hc hr hq hL h this p0 p1 FU (0 : Int32) (0 : Int32)
theorem s9_sharedWith : YV yX9_sharedWith RX9 cX9_sharedWith 5 (some .int) 2 := ⟨w_1342, w_1341, w_60, w_118, rfl, by decide +kernel, by decide +kernel, by decide +kernel⟩
def f9_shared (h : AH) (this : Nat) (p0 : Int32) (p1 : Int32) : Option (Int32) := (hObj 9 h this).bind fun _ => (f9_isPiece h this p0).bind fun x2 => (if x2 = true then (f9_in h p1.toInt64 (0 : Int64) (5 : Int64)).bind fun x14 => (if x14 = true then (f9_sharedWith h this p0 p1).bind fun x23 => some x23 else some (-1 : Int32)) else some (-1 : Int32))
theorem ob9_shared {h : AH} {this : Nat} {p0 : Int32} {p1 : Int32} {x : Int32} (e : f9_shared h this p0 p1 = some x) : ∃ fs, hObj 9 h this = some fs := by
  unfold f9_shared at e
  obtain ⟨fs, h1, -⟩ := bd e
  exact ⟨fs, h1⟩
set_option maxRecDepth 100000 in
theorem ct9_shared (l : Launch) (D : va_G) (tys : Tys) (base : Nat) (h : AH) (this : Nat) (p0 : Int32) (p1 : Int32) : Ct l D tys base yX9_shared cX9_shared 3 (some .int) 4 90 0 0 [.ref this, .int p0, .int p1] h (rI h) (f9_shared h this p0 p1) := by
  refine Ct.intro (own := RX9) (L := [(0, .ref this), (1, .int p0), (2, .int p1)]) rfl (by decide) rfl (Nat.le_of_ble_eq_true rfl) fun κ hc hr hq hi hL => ?_
  have hn : ∀ i, i < 3 → i < κ.2.2.2.2.1 := fun i q => hL ▸ q
  unfold f9_shared
  refine v_obj ?_
  refine v_aload_n (i := 0) hc 0 rfl dX9_shared_0 rfl ?_
  refine v_iload_n (i := 1) hc 1 rfl dX9_shared_1 rfl ?_
  refine v_cB hc (m_V' (As := [.int p0]) (b := this) (rest := []) 1 hc hr (fun l D tys base => ct9_isPiece l D tys base h this p0) (fun x hx => ob9_isPiece hx) rfl s9_isPiece w_1286 rfl ⟨Nat.le_of_ble_eq_true rfl, Nat.le_of_ble_eq_true rfl⟩ ⟨Nat.le_of_ble_eq_true rfl, Nat.le_of_ble_eq_true rfl⟩ (Nat.le_of_ble_eq_true rfl) dX9_shared_2) fun x2 => ?_
  refine v_ifb_eq hc 29 dX9_shared_5 rfl ?_ ?_
  · refine v_iconst (x := (-1 : Int32)) hc dX9_shared_29 zi_m1 ?_
    exact v_iret hc hq rfl rfl (Nat.le_of_ble_eq_true rfl) (Nat.le_of_ble_eq_true rfl) rfl dX9_shared_30
  · refine v_iload_n (i := 2) hc 2 rfl dX9_shared_8 rfl ?_
    refine v_i2l hc dX9_shared_9 ?_
    refine v_lconst (x := (0 : Int64)) hc dX9_shared_10 (by decide) ?_
    refine v_ldc2 (x := (5 : Int64)) hc w_1271 dX9_shared_11 ?_
    refine v_cB hc (m_S' (As := [.long p1.toInt64, .long (0 : Int64), .long (5 : Int64)]) (rest := []) 3 hc hr (fun l D tys base => ct9_in l D tys base h p1.toInt64 (0 : Int64) (5 : Int64)) s9_in w_1246 rfl ⟨Nat.le_of_ble_eq_true rfl, Nat.le_of_ble_eq_true rfl⟩ ⟨Nat.le_of_ble_eq_true rfl, Nat.le_of_ble_eq_true rfl⟩ (Nat.le_of_ble_eq_true rfl) dX9_shared_14) fun x14 => ?_
    refine v_ifb_eq hc 29 dX9_shared_17 rfl ?_ ?_
    · refine v_iconst (x := (-1 : Int32)) hc dX9_shared_29 zi_m1 ?_
      exact v_iret hc hq rfl rfl (Nat.le_of_ble_eq_true rfl) (Nat.le_of_ble_eq_true rfl) rfl dX9_shared_30
    · refine v_aload_n (i := 0) hc 0 rfl dX9_shared_20 rfl ?_
      refine v_iload_n (i := 1) hc 1 rfl dX9_shared_21 rfl ?_
      refine v_iload_n (i := 2) hc 2 rfl dX9_shared_22 rfl ?_
      refine v_cI hc (m_V' (As := [.int p0, .int p1]) (b := this) (rest := []) 2 hc hr (fun l D tys base => ct9_sharedWith l D tys base h this p0 p1) (fun x hx => ob9_sharedWith hx) rfl s9_sharedWith w_1339 rfl ⟨Nat.le_of_ble_eq_true rfl, Nat.le_of_ble_eq_true rfl⟩ ⟨Nat.le_of_ble_eq_true rfl, Nat.le_of_ble_eq_true rfl⟩ (Nat.le_of_ble_eq_true rfl) dX9_shared_23) fun x23 => ?_
      refine v_goto hc 30 dX9_shared_26 rfl ?_
      exact v_iret hc hq rfl rfl (Nat.le_of_ble_eq_true rfl) (Nat.le_of_ble_eq_true rfl) rfl dX9_shared_30
theorem s9_shared : YV yX9_shared RX9 cX9_shared 3 (some .int) 2 := ⟨w_1338, w_1336, w_1337, w_118, rfl, by decide +kernel, by decide +kernel, by decide +kernel⟩
def f9_four_3 (v0 : Nat) (v1 : Int32) : Nat → AH → Int32 → Option (AH)
  | 0, _, _ => none
  | n + 1, h, v2 => (if v2 < 0 then some h else (fR 9 1 h v0).bind fun x8 => (fI 9 2 h v0).bind fun x12 => (sI 2 h x8 x12 (vp_nar .byte ((v1 >>> (v2 &&& 31)).toInt8.toInt32))).bind fun h19 => (fI 9 2 h19 v0).bind fun x22 => (fS 9 2 h19 v0 (.int (x22 + (1 : Int32)))).bind fun h27 => (some (v2 + (-8 : Int32))).bind fun x30 => f9_four_3 v0 v1 n h27 x30)
set_option maxRecDepth 100000 in
theorem vl9_four_3 {κ : Kx} (hc : CX κ RX9 cX9_four) (hr : RX κ ({ frames := 0, cells := 0, slots := 0, locals := 0 } : Room)) (hq : QX κ none 0 0) (hL : 3 = κ.2.2.2.2.1)  (v0 : Nat) (v1 : Int32) : ∀ n (h : AH) (v2 : Int32), V κ (wV) 0 0 3 [(0, .ref v0), (1, .int v1), (2, .int v2)] [] h (f9_four_3 v0 v1 n h v2) := by
  have hn : ∀ i, i < 3 → i < κ.2.2.2.2.1 := fun i q => hL ▸ q
  intro n
  induction n with
  | zero => intros; exact v_none
  | succ n ih =>
    intro h v2
    rw [f9_four_3.eq_2]
    refine v_iload_n (i := 2) hc 2 rfl dX9_four_3 rfl ?_
    refine v_if_lt hc 36 dX9_four_4 rfl ?_ ?_
    · exact v_vret hc hq (Nat.le_of_ble_eq_true rfl) (Nat.le_of_ble_eq_true rfl) rfl dX9_four_36
    · refine v_aload_n (i := 0) hc 0 rfl dX9_four_7 rfl ?_
      refine v_getV hc kX9 1 (by decide) w_1132 rfl dX9_four_8 (gR rfl fun x8 => ?_)
      refine v_aload_n (i := 0) hc 0 rfl dX9_four_11 rfl ?_
      refine v_getV hc kX9 2 (by decide) w_1133 rfl dX9_four_12 (gI rfl fun x12 => ?_)
      refine v_iload_n (i := 1) hc 1 rfl dX9_four_15 rfl ?_
      refine v_iload_n (i := 2) hc 2 rfl dX9_four_16 rfl ?_
      refine v_ishr hc dX9_four_17 ?_
      refine v_i2b hc dX9_four_18 ?_
      refine v_bast hc dX9_four_19 fun h19 => ?_
      refine v_aload_n (i := 0) hc 0 rfl dX9_four_20 rfl ?_
      refine v_dup hc dX9_four_21 rfl ?_
      refine v_getV hc kX9 2 (by decide) w_1133 rfl dX9_four_22 (gI rfl fun x22 => ?_)
      refine v_iconst (x := (1 : Int32)) hc dX9_four_25 zi_1 ?_
      refine v_iadd hc dX9_four_26 ?_
      refine v_put hc kX9 2 (by decide) w_1133 rfl rfl dX9_four_27 ⟨rfl, rfl⟩ fun h27 => ?_
      refine v_iincN (i := 2) (y := (-8 : Int32)) (L' := fun z => [(2, .int z), (0, .ref v0), (1, .int v1)]) hc 2 rfl dX9_four_30 zi_m8 (hn 2 (Nat.le_of_ble_eq_true rfl)) (fun _ => rfl) fun x30 => ?_
      refine v_goto hc 3 dX9_four_33 rfl ?_
      refine v_sub (L' := [(0, .ref v0), (1, .int v1), (2, .int x30)]) [1, 2, 0] rfl ?_
      exact ih h27 x30
def f9_four (h : AH) (this : Nat) (p0 : Int32) : Option (AH) := (hObj 9 h this).bind fun _ => f9_four_3 this p0 FU h (24 : Int32)
theorem ob9_four {h : AH} {this : Nat} {p0 : Int32} {x : AH} (e : f9_four h this p0 = some x) : ∃ fs, hObj 9 h this = some fs := by
  unfold f9_four at e
  obtain ⟨fs, h1, -⟩ := bd e
  exact ⟨fs, h1⟩
set_option maxRecDepth 100000 in
theorem ct9_four (l : Launch) (D : va_G) (tys : Tys) (base : Nat) (h : AH) (this : Nat) (p0 : Int32) : Ct l D tys base yX9_four cX9_four 3 none 0 0 0 0 [.ref this, .int p0] h (wV) (f9_four h this p0) := by
  refine Ct.intro (own := RX9) (L := [(0, .ref this), (1, .int p0)]) rfl (by decide) rfl (Nat.le_of_ble_eq_true rfl) fun κ hc hr hq hi hL => ?_
  have hn : ∀ i, i < 3 → i < κ.2.2.2.2.1 := fun i q => hL ▸ q
  unfold f9_four
  refine v_obj ?_
  refine v_bipush (x := (24 : Int32)) hc dX9_four_0 zb_24 ?_
  refine v_istore_n (i := 2) (L' := [(2, .int (24 : Int32)), (0, .ref this), (1, .int p0)]) hc dX9_four_2 rfl (hn 2 (Nat.le_of_ble_eq_true rfl)) rfl ?_
  refine v_sub (L' := [(0, .ref this), (1, .int p0), (2, .int (24 : Int32))]) [1, 2, 0] rfl ?_
  exact vl9_four_3 hc hr hq hL this p0 FU h (24 : Int32)
theorem s9_four : YV yX9_four RX9 cX9_four 3 none 1 := ⟨w_1350, w_1349, w_61, w_118, rfl, by decide +kernel, by decide +kernel, by decide +kernel⟩
def f9_feed (h : AH) (this : Nat) (p0 : Int32) (p1 : Int32) (p2 : Int32) (p3 : Int32) (p4 : Int32) : Option (Int32 × AH) := (hObj 9 h this).bind fun _ => (fI 9 2 h this).bind fun x1 => (if (x1 + (20 : Int32)) ≤ (400 : Int32) then (f9_four h this p0).bind fun x17 => (f9_four x17 this p1).bind fun x22 => (f9_four x22 this p2).bind fun x27 => (f9_four x27 this p3).bind fun x33 => (f9_four x33 this p4).bind fun x39 => (fI 9 2 x39 this).bind fun x43 => some (x43, x39) else some ((-1 : Int32), h))
theorem ob9_feed {h : AH} {this : Nat} {p0 : Int32} {p1 : Int32} {p2 : Int32} {p3 : Int32} {p4 : Int32} {x : Int32 × AH} (e : f9_feed h this p0 p1 p2 p3 p4 = some x) : ∃ fs, hObj 9 h this = some fs := by
  unfold f9_feed at e
  obtain ⟨fs, h1, -⟩ := bd e
  exact ⟨fs, h1⟩
set_option maxRecDepth 100000 in
theorem ct9_feed (l : Launch) (D : va_G) (tys : Tys) (base : Nat) (h : AH) (this : Nat) (p0 : Int32) (p1 : Int32) (p2 : Int32) (p3 : Int32) (p4 : Int32) : Ct l D tys base yX9_feed cX9_feed 6 (some .int) 1 22 0 0 [.ref this, .int p0, .int p1, .int p2, .int p3, .int p4] h (wI) (f9_feed h this p0 p1 p2 p3 p4) := by
  refine Ct.intro (own := RX9) (L := [(0, .ref this), (1, .int p0), (2, .int p1), (3, .int p2), (4, .int p3), (5, .int p4)]) rfl (by decide) rfl (Nat.le_of_ble_eq_true rfl) fun κ hc hr hq hi hL => ?_
  have hn : ∀ i, i < 6 → i < κ.2.2.2.2.1 := fun i q => hL ▸ q
  unfold f9_feed
  refine v_obj ?_
  refine v_aload_n (i := 0) hc 0 rfl dX9_feed_0 rfl ?_
  refine v_getV hc kX9 2 (by decide) w_1133 rfl dX9_feed_1 (gI rfl fun x1 => ?_)
  refine v_bipush (x := (20 : Int32)) hc dX9_feed_4 zb_20 ?_
  refine v_iadd hc dX9_feed_6 ?_
  refine v_sipush (x := (400 : Int32)) hc dX9_feed_7 zs_400 ?_
  refine v_icmp_le hc 15 dX9_feed_10 rfl ?_ ?_
  · refine v_aload_n (i := 0) hc 0 rfl dX9_feed_15 rfl ?_
    refine v_iload_n (i := 1) hc 1 rfl dX9_feed_16 rfl ?_
    refine v_cV hc (m_V' (As := [.int p0]) (b := this) (rest := []) 1 hc hr (fun l D tys base => ct9_four l D tys base h this p0) (fun x hx => ob9_four hx) rfl s9_four w_1347 rfl ⟨Nat.le_of_ble_eq_true rfl, Nat.le_of_ble_eq_true rfl⟩ ⟨Nat.le_of_ble_eq_true rfl, Nat.le_of_ble_eq_true rfl⟩ (Nat.le_of_ble_eq_true rfl) dX9_feed_17) fun x17 => ?_
    refine v_aload_n (i := 0) hc 0 rfl dX9_feed_20 rfl ?_
    refine v_iload_n (i := 2) hc 2 rfl dX9_feed_21 rfl ?_
    refine v_cV hc (m_V' (As := [.int p1]) (b := this) (rest := []) 1 hc hr (fun l D tys base => ct9_four l D tys base x17 this p1) (fun x hx => ob9_four hx) rfl s9_four w_1347 rfl ⟨Nat.le_of_ble_eq_true rfl, Nat.le_of_ble_eq_true rfl⟩ ⟨Nat.le_of_ble_eq_true rfl, Nat.le_of_ble_eq_true rfl⟩ (Nat.le_of_ble_eq_true rfl) dX9_feed_22) fun x22 => ?_
    refine v_aload_n (i := 0) hc 0 rfl dX9_feed_25 rfl ?_
    refine v_iload_n (i := 3) hc 3 rfl dX9_feed_26 rfl ?_
    refine v_cV hc (m_V' (As := [.int p2]) (b := this) (rest := []) 1 hc hr (fun l D tys base => ct9_four l D tys base x22 this p2) (fun x hx => ob9_four hx) rfl s9_four w_1347 rfl ⟨Nat.le_of_ble_eq_true rfl, Nat.le_of_ble_eq_true rfl⟩ ⟨Nat.le_of_ble_eq_true rfl, Nat.le_of_ble_eq_true rfl⟩ (Nat.le_of_ble_eq_true rfl) dX9_feed_27) fun x27 => ?_
    refine v_aload_n (i := 0) hc 0 rfl dX9_feed_30 rfl ?_
    refine v_iload (i := 4) hc 4 rfl dX9_feed_31 ?_
    refine v_cV hc (m_V' (As := [.int p3]) (b := this) (rest := []) 1 hc hr (fun l D tys base => ct9_four l D tys base x27 this p3) (fun x hx => ob9_four hx) rfl s9_four w_1347 rfl ⟨Nat.le_of_ble_eq_true rfl, Nat.le_of_ble_eq_true rfl⟩ ⟨Nat.le_of_ble_eq_true rfl, Nat.le_of_ble_eq_true rfl⟩ (Nat.le_of_ble_eq_true rfl) dX9_feed_33) fun x33 => ?_
    refine v_aload_n (i := 0) hc 0 rfl dX9_feed_36 rfl ?_
    refine v_iload (i := 5) hc 5 rfl dX9_feed_37 ?_
    refine v_cV hc (m_V' (As := [.int p4]) (b := this) (rest := []) 1 hc hr (fun l D tys base => ct9_four l D tys base x33 this p4) (fun x hx => ob9_four hx) rfl s9_four w_1347 rfl ⟨Nat.le_of_ble_eq_true rfl, Nat.le_of_ble_eq_true rfl⟩ ⟨Nat.le_of_ble_eq_true rfl, Nat.le_of_ble_eq_true rfl⟩ (Nat.le_of_ble_eq_true rfl) dX9_feed_39) fun x39 => ?_
    refine v_aload_n (i := 0) hc 0 rfl dX9_feed_42 rfl ?_
    refine v_getV hc kX9 2 (by decide) w_1133 rfl dX9_feed_43 (gI rfl fun x43 => ?_)
    exact v_iret hc hq rfl rfl (Nat.le_of_ble_eq_true rfl) (Nat.le_of_ble_eq_true rfl) rfl dX9_feed_46
  · refine v_iconst (x := (-1 : Int32)) hc dX9_feed_13 zi_m1 ?_
    exact v_iret hc hq rfl rfl (Nat.le_of_ble_eq_true rfl) (Nat.le_of_ble_eq_true rfl) rfl dX9_feed_14
theorem s9_feed : YV yX9_feed RX9 cX9_feed 6 (some .int) 5 := ⟨w_1346, w_1344, w_1345, w_118, rfl, by decide +kernel, by decide +kernel, by decide +kernel⟩
def f9_end (h : AH) (this : Nat) (p0 : Int32) : Option (Int32 × AH) := (hObj 9 h this).bind fun _ => (if p0 < 0 then some ((-1 : Int32), h) else (fI 9 2 h this).bind fun x6 => (if p0 ≤ x6 then (fS 9 2 h this (.int p0)).bind fun h16 => some (p0, h16) else some ((-1 : Int32), h)))
theorem ob9_end {h : AH} {this : Nat} {p0 : Int32} {x : Int32 × AH} (e : f9_end h this p0 = some x) : ∃ fs, hObj 9 h this = some fs := by
  unfold f9_end at e
  obtain ⟨fs, h1, -⟩ := bd e
  exact ⟨fs, h1⟩
set_option maxRecDepth 100000 in
theorem ct9_end (l : Launch) (D : va_G) (tys : Tys) (base : Nat) (h : AH) (this : Nat) (p0 : Int32) : Ct l D tys base yX9_end cX9_end 2 (some .int) 0 0 0 0 [.ref this, .int p0] h (wI) (f9_end h this p0) := by
  refine Ct.intro (own := RX9) (L := [(0, .ref this), (1, .int p0)]) rfl (by decide) rfl (Nat.le_of_ble_eq_true rfl) fun κ hc hr hq hi hL => ?_
  have hn : ∀ i, i < 2 → i < κ.2.2.2.2.1 := fun i q => hL ▸ q
  unfold f9_end
  refine v_obj ?_
  refine v_iload_n (i := 1) hc 1 rfl dX9_end_0 rfl ?_
  refine v_if_lt hc 12 dX9_end_1 rfl ?_ ?_
  · refine v_iconst (x := (-1 : Int32)) hc dX9_end_12 zi_m1 ?_
    exact v_iret hc hq rfl rfl (Nat.le_of_ble_eq_true rfl) (Nat.le_of_ble_eq_true rfl) rfl dX9_end_13
  · refine v_iload_n (i := 1) hc 1 rfl dX9_end_4 rfl ?_
    refine v_aload_n (i := 0) hc 0 rfl dX9_end_5 rfl ?_
    refine v_getV hc kX9 2 (by decide) w_1133 rfl dX9_end_6 (gI rfl fun x6 => ?_)
    refine v_icmp_le hc 14 dX9_end_9 rfl ?_ ?_
    · refine v_aload_n (i := 0) hc 0 rfl dX9_end_14 rfl ?_
      refine v_iload_n (i := 1) hc 1 rfl dX9_end_15 rfl ?_
      refine v_put hc kX9 2 (by decide) w_1133 rfl rfl dX9_end_16 ⟨rfl, rfl⟩ fun h16 => ?_
      refine v_iload_n (i := 1) hc 1 rfl dX9_end_19 rfl ?_
      exact v_iret hc hq rfl rfl (Nat.le_of_ble_eq_true rfl) (Nat.le_of_ble_eq_true rfl) rfl dX9_end_20
    · refine v_iconst (x := (-1 : Int32)) hc dX9_end_12 zi_m1 ?_
      exact v_iret hc hq rfl rfl (Nat.le_of_ble_eq_true rfl) (Nat.le_of_ble_eq_true rfl) rfl dX9_end_13
theorem s9_end : YV yX9_end RX9 cX9_end 2 (some .int) 1 := ⟨w_1354, w_1352, w_1353, w_118, rfl, by decide +kernel, by decide +kernel, by decide +kernel⟩
def f9_see_38 (h : AH) (v0 : Nat) : Option (Int32 × AH) := (fI 9 16 h v0).bind fun x39 => (fI 9 2 h v0).bind fun x43 => (if x43 ≤ x39 then some ((-1 : Int32), h) else (fR 9 1 h v0).bind fun x50 => (fI 9 16 h v0).bind fun x54 => (aI 2 h x50 x54).bind fun x57 => some (x57 &&& (255 : Int32), h))
set_option maxRecDepth 100000 in
theorem vl9_see_38 {κ : Kx} (hc : CX κ RX9 cX9_see) (hr : RX κ ({ frames := 0, cells := 0, slots := 0, locals := 0 } : Room)) (hq : QX κ (some .int) 0 0) (hL : 1 = κ.2.2.2.2.1) (h : AH) (v0 : Nat) : V κ (wI) 0 0 38 [(0, .ref v0)] [] h (f9_see_38 h v0) := by
  have hn : ∀ i, i < 1 → i < κ.2.2.2.2.1 := fun i q => hL ▸ q
  unfold f9_see_38
  refine v_aload_n (i := 0) hc 0 rfl dX9_see_38 rfl ?_
  refine v_getV hc kX9 16 (by decide) w_1147 rfl dX9_see_39 (gI rfl fun x39 => ?_)
  refine v_aload_n (i := 0) hc 0 rfl dX9_see_42 rfl ?_
  refine v_getV hc kX9 2 (by decide) w_1133 rfl dX9_see_43 (gI rfl fun x43 => ?_)
  refine v_icmp_ge hc 65 dX9_see_46 rfl ?_ ?_
  · refine v_iconst (x := (-1 : Int32)) hc dX9_see_65 zi_m1 ?_
    exact v_iret hc hq rfl rfl (Nat.le_of_ble_eq_true rfl) (Nat.le_of_ble_eq_true rfl) rfl dX9_see_66
  · refine v_aload_n (i := 0) hc 0 rfl dX9_see_49 rfl ?_
    refine v_getV hc kX9 1 (by decide) w_1132 rfl dX9_see_50 (gR rfl fun x50 => ?_)
    refine v_aload_n (i := 0) hc 0 rfl dX9_see_53 rfl ?_
    refine v_getV hc kX9 16 (by decide) w_1147 rfl dX9_see_54 (gI rfl fun x54 => ?_)
    refine v_bald hc dX9_see_57 fun x57 => ?_
    refine v_sipush (x := (255 : Int32)) hc dX9_see_58 zs_255 ?_
    refine v_iand hc dX9_see_61 ?_
    refine v_goto hc 66 dX9_see_62 rfl ?_
    exact v_iret hc hq rfl rfl (Nat.le_of_ble_eq_true rfl) (Nat.le_of_ble_eq_true rfl) rfl dX9_see_66
def f9_see_0 (v0 : Nat) : Nat → AH → Option (Int32 × AH)
  | 0, _ => none
  | n + 1, h => (fI 9 16 h v0).bind fun x1 => (fI 9 2 h v0).bind fun x5 => (if x5 ≤ x1 then f9_see_38 h v0 else (fR 9 1 h v0).bind fun x12 => (fI 9 16 h v0).bind fun x16 => (aI 2 h x12 x16).bind fun x19 => (if x19 = (32 : Int32) then (fI 9 16 h v0).bind fun x27 => (fS 9 16 h v0 (.int (x27 + (1 : Int32)))).bind fun h32 => f9_see_0 v0 n h32 else f9_see_38 h v0))
set_option maxRecDepth 100000 in
theorem vl9_see_0 {κ : Kx} (hc : CX κ RX9 cX9_see) (hr : RX κ ({ frames := 0, cells := 0, slots := 0, locals := 0 } : Room)) (hq : QX κ (some .int) 0 0) (hL : 1 = κ.2.2.2.2.1)  (v0 : Nat) : ∀ n (h : AH), V κ (wI) 0 0 0 [(0, .ref v0)] [] h (f9_see_0 v0 n h) := by
  have hn : ∀ i, i < 1 → i < κ.2.2.2.2.1 := fun i q => hL ▸ q
  intro n
  induction n with
  | zero => intros; exact v_none
  | succ n ih =>
    intro h
    rw [f9_see_0.eq_2]
    refine v_aload_n (i := 0) hc 0 rfl dX9_see_0 rfl ?_
    refine v_getV hc kX9 16 (by decide) w_1147 rfl dX9_see_1 (gI rfl fun x1 => ?_)
    refine v_aload_n (i := 0) hc 0 rfl dX9_see_4 rfl ?_
    refine v_getV hc kX9 2 (by decide) w_1133 rfl dX9_see_5 (gI rfl fun x5 => ?_)
    refine v_icmp_ge hc 38 dX9_see_8 rfl ?_ ?_
    · refine v_sub (L' := [(0, .ref v0)]) [0] rfl ?_
      exact vl9_see_38 hc hr hq hL h v0
    · refine v_aload_n (i := 0) hc 0 rfl dX9_see_11 rfl ?_
      refine v_getV hc kX9 1 (by decide) w_1132 rfl dX9_see_12 (gR rfl fun x12 => ?_)
      refine v_aload_n (i := 0) hc 0 rfl dX9_see_15 rfl ?_
      refine v_getV hc kX9 16 (by decide) w_1147 rfl dX9_see_16 (gI rfl fun x16 => ?_)
      refine v_bald hc dX9_see_19 fun x19 => ?_
      refine v_bipush (x := (32 : Int32)) hc dX9_see_20 zb_32 ?_
      refine v_icmp_ne hc 38 dX9_see_22 rfl ?_ ?_
      · refine v_sub (L' := [(0, .ref v0)]) [0] rfl ?_
        exact vl9_see_38 hc hr hq hL h v0
      · refine v_aload_n (i := 0) hc 0 rfl dX9_see_25 rfl ?_
        refine v_dup hc dX9_see_26 rfl ?_
        refine v_getV hc kX9 16 (by decide) w_1147 rfl dX9_see_27 (gI rfl fun x27 => ?_)
        refine v_iconst (x := (1 : Int32)) hc dX9_see_30 zi_1 ?_
        refine v_iadd hc dX9_see_31 ?_
        refine v_put hc kX9 16 (by decide) w_1147 rfl rfl dX9_see_32 ⟨rfl, rfl⟩ fun h32 => ?_
        refine v_goto hc 0 dX9_see_35 rfl ?_
        refine v_sub (L' := [(0, .ref v0)]) [0] rfl ?_
        exact ih h32
def f9_see (h : AH) (this : Nat) : Option (Int32 × AH) := (hObj 9 h this).bind fun _ => f9_see_0 this FU h
theorem ob9_see {h : AH} {this : Nat} {x : Int32 × AH} (e : f9_see h this = some x) : ∃ fs, hObj 9 h this = some fs := by
  unfold f9_see at e
  obtain ⟨fs, h1, -⟩ := bd e
  exact ⟨fs, h1⟩
set_option maxRecDepth 100000 in
theorem ct9_see (l : Launch) (D : va_G) (tys : Tys) (base : Nat) (h : AH) (this : Nat) : Ct l D tys base yX9_see cX9_see 1 (some .int) 0 0 0 0 [.ref this] h (wI) (f9_see h this) := by
  refine Ct.intro (own := RX9) (L := [(0, .ref this)]) rfl (by decide) rfl (Nat.le_of_ble_eq_true rfl) fun κ hc hr hq hi hL => ?_
  have hn : ∀ i, i < 1 → i < κ.2.2.2.2.1 := fun i q => hL ▸ q
  unfold f9_see
  refine v_obj ?_
  refine v_sub (L' := [(0, .ref this)]) [0] rfl ?_
  exact vl9_see_0 hc hr hq hL this FU h
theorem s9_see : YV yX9_see RX9 cX9_see 1 (some .int) 0 := ⟨w_1370, w_1369, w_64, w_118, rfl, by decide +kernel, by decide +kernel, by decide +kernel⟩
def f9_isLetter (h : AH) (this : Nat) (p0 : Int32) : Option (Bool) := (hObj 9 h this).bind fun _ => (fI 9 2 h this).bind fun x2 => (if x2 ≤ p0 then some false else (fR 9 1 h this).bind fun x9 => (aI 2 h x9 p0).bind fun x13 => (if x13 < (97 : Int32) then some false else (fR 9 1 h this).bind fun x20 => (aI 2 h x20 p0).bind fun x24 => (if (122 : Int32) < x24 then some false else some true)))
theorem ob9_isLetter {h : AH} {this : Nat} {p0 : Int32} {x : Bool} (e : f9_isLetter h this p0 = some x) : ∃ fs, hObj 9 h this = some fs := by
  unfold f9_isLetter at e
  obtain ⟨fs, h1, -⟩ := bd e
  exact ⟨fs, h1⟩
set_option maxRecDepth 100000 in
theorem ct9_isLetter (l : Launch) (D : va_G) (tys : Tys) (base : Nat) (h : AH) (this : Nat) (p0 : Int32) : Ct l D tys base yX9_isLetter cX9_isLetter 2 (some .boolean) 0 0 0 0 [.ref this, .int p0] h (rB h) (f9_isLetter h this p0) := by
  refine Ct.intro (own := RX9) (L := [(0, .ref this), (1, .int p0)]) rfl (by decide) rfl (Nat.le_of_ble_eq_true rfl) fun κ hc hr hq hi hL => ?_
  have hn : ∀ i, i < 2 → i < κ.2.2.2.2.1 := fun i q => hL ▸ q
  unfold f9_isLetter
  refine v_obj ?_
  refine v_iload_n (i := 1) hc 1 rfl dX9_isLetter_0 rfl ?_
  refine v_aload_n (i := 0) hc 0 rfl dX9_isLetter_1 rfl ?_
  refine v_getV hc kX9 2 (by decide) w_1133 rfl dX9_isLetter_2 (gI rfl fun x2 => ?_)
  refine v_icmp_ge hc 34 dX9_isLetter_5 rfl ?_ ?_
  · refine v_iconst (x := (0 : Int32)) hc dX9_isLetter_34 zi_0 ?_
    exact v_iret (v := bI false) hc hq rfl (nar_b false) (Nat.le_of_ble_eq_true rfl) (Nat.le_of_ble_eq_true rfl) rfl dX9_isLetter_35
  · refine v_aload_n (i := 0) hc 0 rfl dX9_isLetter_8 rfl ?_
    refine v_getV hc kX9 1 (by decide) w_1132 rfl dX9_isLetter_9 (gR rfl fun x9 => ?_)
    refine v_iload_n (i := 1) hc 1 rfl dX9_isLetter_12 rfl ?_
    refine v_bald hc dX9_isLetter_13 fun x13 => ?_
    refine v_bipush (x := (97 : Int32)) hc dX9_isLetter_14 zb_97 ?_
    refine v_icmp_lt hc 34 dX9_isLetter_16 rfl ?_ ?_
    · refine v_iconst (x := (0 : Int32)) hc dX9_isLetter_34 zi_0 ?_
      exact v_iret (v := bI false) hc hq rfl (nar_b false) (Nat.le_of_ble_eq_true rfl) (Nat.le_of_ble_eq_true rfl) rfl dX9_isLetter_35
    · refine v_aload_n (i := 0) hc 0 rfl dX9_isLetter_19 rfl ?_
      refine v_getV hc kX9 1 (by decide) w_1132 rfl dX9_isLetter_20 (gR rfl fun x20 => ?_)
      refine v_iload_n (i := 1) hc 1 rfl dX9_isLetter_23 rfl ?_
      refine v_bald hc dX9_isLetter_24 fun x24 => ?_
      refine v_bipush (x := (122 : Int32)) hc dX9_isLetter_25 zb_122 ?_
      refine v_icmp_gt hc 34 dX9_isLetter_27 rfl ?_ ?_
      · refine v_iconst (x := (0 : Int32)) hc dX9_isLetter_34 zi_0 ?_
        exact v_iret (v := bI false) hc hq rfl (nar_b false) (Nat.le_of_ble_eq_true rfl) (Nat.le_of_ble_eq_true rfl) rfl dX9_isLetter_35
      · refine v_iconst (x := (1 : Int32)) hc dX9_isLetter_30 zi_1 ?_
        refine v_goto hc 35 dX9_isLetter_31 rfl ?_
        exact v_iret (v := bI true) hc hq rfl (nar_b true) (Nat.le_of_ble_eq_true rfl) (Nat.le_of_ble_eq_true rfl) rfl dX9_isLetter_35
theorem s9_isLetter : YV yX9_isLetter RX9 cX9_isLetter 2 (some .boolean) 1 := ⟨w_1379, w_1378, w_66, w_118, rfl, by decide +kernel, by decide +kernel, by decide +kernel⟩
def f9_isWord_10 (h : AH) (v0 : Nat) (v1 : Int64) : Nat → Int64 → Int32 → Option (Bool × AH)
  | 0, _, _ => none
  | n + 1, v3, v5 => (fI 9 16 h v0).bind fun x12 => (f9_isLetter h v0 (x12 + v5)).bind fun x18 => (if x18 = true then (if (8 : Int32) ≤ v5 then (some (v5 + (1 : Int32))).bind fun x50 => f9_isWord_10 h v0 v1 n v3 x50 else (fR 9 1 h v0).bind fun x36 => (fI 9 16 h v0).bind fun x40 => (aI 2 h x36 (x40 + v5)).bind fun x46 => (some ((v3 <<< ((8 : Int32).toInt64 &&& 63)) ||| x46.toInt64)).bind fun x49 => (some (v5 + (1 : Int32))).bind fun x50 => f9_isWord_10 h v0 v1 n x49 x50) else (if v5 ≤ 0 then some (false, h) else (if (8 : Int32) ≤ v5 then some (false, h) else (if v3 = v1 then some (true, h) else some (false, h)))))
set_option maxRecDepth 100000 in
theorem vl9_isWord_10 {κ : Kx} (hc : CX κ RX9 cX9_isWord) (hr : RX κ ({ frames := 1, cells := 0, slots := 0, locals := 21 } : Room)) (hq : QX κ (some .boolean) 0 0) (hL : 6 = κ.2.2.2.2.1)  (h : AH) (v0 : Nat) (v1 : Int64) : ∀ n (v3 : Int64) (v5 : Int32), V κ (wB) 0 0 10 [(0, .ref v0), (1, .long v1), (3, .long v3), (5, .int v5)] [] h (f9_isWord_10 h v0 v1 n v3 v5) := by
  have hn : ∀ i, i < 6 → i < κ.2.2.2.2.1 := fun i q => hL ▸ q
  intro n
  induction n with
  | zero => intros; exact v_none
  | succ n ih =>
    intro v3 v5
    rw [f9_isWord_10.eq_2]
    refine v_aload_n (i := 0) hc 0 rfl dX9_isWord_10 rfl ?_
    refine v_aload_n (i := 0) hc 0 rfl dX9_isWord_11 rfl ?_
    refine v_getV hc kX9 16 (by decide) w_1147 rfl dX9_isWord_12 (gI rfl fun x12 => ?_)
    refine v_iload (i := 5) hc 3 rfl dX9_isWord_15 ?_
    refine v_iadd hc dX9_isWord_17 ?_
    refine v_cB hc (m_V' (As := [.int (x12 + v5)]) (b := v0) (rest := []) 1 hc hr (fun l D tys base => ct9_isLetter l D tys base h v0 (x12 + v5)) (fun x hx => ob9_isLetter hx) rfl s9_isLetter w_1376 rfl ⟨Nat.le_of_ble_eq_true rfl, Nat.le_of_ble_eq_true rfl⟩ ⟨Nat.le_of_ble_eq_true rfl, Nat.le_of_ble_eq_true rfl⟩ (Nat.le_of_ble_eq_true rfl) dX9_isWord_18) fun x18 => ?_
    refine v_ifb_eq hc 56 dX9_isWord_21 rfl ?_ ?_
    · refine v_iload (i := 5) hc 3 rfl dX9_isWord_56 ?_
      refine v_if_le hc 78 dX9_isWord_58 rfl ?_ ?_
      · refine v_iconst (x := (0 : Int32)) hc dX9_isWord_78 zi_0 ?_
        exact v_iret (v := bI false) hc hq rfl (nar_b false) (Nat.le_of_ble_eq_true rfl) (Nat.le_of_ble_eq_true rfl) rfl dX9_isWord_79
      · refine v_iload (i := 5) hc 3 rfl dX9_isWord_61 ?_
        refine v_bipush (x := (8 : Int32)) hc dX9_isWord_63 zb_8 ?_
        refine v_icmp_ge hc 78 dX9_isWord_65 rfl ?_ ?_
        · refine v_iconst (x := (0 : Int32)) hc dX9_isWord_78 zi_0 ?_
          exact v_iret (v := bI false) hc hq rfl (nar_b false) (Nat.le_of_ble_eq_true rfl) (Nat.le_of_ble_eq_true rfl) rfl dX9_isWord_79
        · refine v_lload_n (i := 3) hc 2 rfl dX9_isWord_68 rfl ?_
          refine v_lload_n (i := 1) hc 1 rfl dX9_isWord_69 rfl ?_
          refine v_lcmp_ne hc 78 dX9_isWord_70 dX9_isWord_71 rfl ?_ ?_
          · refine v_iconst (x := (0 : Int32)) hc dX9_isWord_78 zi_0 ?_
            exact v_iret (v := bI false) hc hq rfl (nar_b false) (Nat.le_of_ble_eq_true rfl) (Nat.le_of_ble_eq_true rfl) rfl dX9_isWord_79
          · refine v_iconst (x := (1 : Int32)) hc dX9_isWord_74 zi_1 ?_
            refine v_goto hc 79 dX9_isWord_75 rfl ?_
            exact v_iret (v := bI true) hc hq rfl (nar_b true) (Nat.le_of_ble_eq_true rfl) (Nat.le_of_ble_eq_true rfl) rfl dX9_isWord_79
    · refine v_iload (i := 5) hc 3 rfl dX9_isWord_24 ?_
      refine v_bipush (x := (8 : Int32)) hc dX9_isWord_26 zb_8 ?_
      refine v_icmp_ge hc 50 dX9_isWord_28 rfl ?_ ?_
      · refine v_iincN (i := 5) (y := (1 : Int32)) (L' := fun z => [(5, .int z), (0, .ref v0), (1, .long v1), (3, .long v3)]) hc 3 rfl dX9_isWord_50 zi_1 (hn 5 (Nat.le_of_ble_eq_true rfl)) (fun _ => rfl) fun x50 => ?_
        refine v_goto hc 10 dX9_isWord_53 rfl ?_
        refine v_sub (L' := [(0, .ref v0), (1, .long v1), (3, .long v3), (5, .int x50)]) [1, 2, 3, 0] rfl ?_
        exact ih v3 x50
      · refine v_lload_n (i := 3) hc 2 rfl dX9_isWord_31 rfl ?_
        refine v_bipush (x := (8 : Int32)) hc dX9_isWord_32 zb_8 ?_
        refine v_lshl hc dX9_isWord_34 ?_
        refine v_aload_n (i := 0) hc 0 rfl dX9_isWord_35 rfl ?_
        refine v_getV hc kX9 1 (by decide) w_1132 rfl dX9_isWord_36 (gR rfl fun x36 => ?_)
        refine v_aload_n (i := 0) hc 0 rfl dX9_isWord_39 rfl ?_
        refine v_getV hc kX9 16 (by decide) w_1147 rfl dX9_isWord_40 (gI rfl fun x40 => ?_)
        refine v_iload (i := 5) hc 3 rfl dX9_isWord_43 ?_
        refine v_iadd hc dX9_isWord_45 ?_
        refine v_bald hc dX9_isWord_46 fun x46 => ?_
        refine v_i2l hc dX9_isWord_47 ?_
        refine v_lor hc dX9_isWord_48 ?_
        refine v_nmL fun x49 => ?_
        refine v_lstore_n (i := 3) (L' := [(3, .long x49), (0, .ref v0), (1, .long v1), (5, .int v5)]) hc dX9_isWord_49 rfl (hn 4 (Nat.le_of_ble_eq_true rfl)) rfl ?_
        refine v_iincN (i := 5) (y := (1 : Int32)) (L' := fun z => [(5, .int z), (3, .long x49), (0, .ref v0), (1, .long v1)]) hc 3 rfl dX9_isWord_50 zi_1 (hn 5 (Nat.le_of_ble_eq_true rfl)) (fun _ => rfl) fun x50 => ?_
        refine v_goto hc 10 dX9_isWord_53 rfl ?_
        refine v_sub (L' := [(0, .ref v0), (1, .long v1), (3, .long x49), (5, .int x50)]) [2, 3, 1, 0] rfl ?_
        exact ih x49 x50
def f9_isWord (h : AH) (this : Nat) (p0 : Int64) : Option (Bool × AH) := (hObj 9 h this).bind fun _ => (f9_see h this).bind fun x1 => (some (0 : Int64)).bind fun x6 => f9_isWord_10 x1.2 this p0 FU x6 (0 : Int32)
theorem ob9_isWord {h : AH} {this : Nat} {p0 : Int64} {x : Bool × AH} (e : f9_isWord h this p0 = some x) : ∃ fs, hObj 9 h this = some fs := by
  unfold f9_isWord at e
  obtain ⟨fs, h1, -⟩ := bd e
  exact ⟨fs, h1⟩
set_option maxRecDepth 100000 in
theorem ct9_isWord (l : Launch) (D : va_G) (tys : Tys) (base : Nat) (h : AH) (this : Nat) (p0 : Int64) : Ct l D tys base yX9_isWord cX9_isWord 6 (some .boolean) 1 21 0 0 [.ref this, .long p0] h (wB) (f9_isWord h this p0) := by
  refine Ct.intro (own := RX9) (L := [(0, .ref this), (1, .long p0)]) rfl (by decide) rfl (Nat.le_of_ble_eq_true rfl) fun κ hc hr hq hi hL => ?_
  have hn : ∀ i, i < 6 → i < κ.2.2.2.2.1 := fun i q => hL ▸ q
  unfold f9_isWord
  refine v_obj ?_
  refine v_aload_n (i := 0) hc 0 rfl dX9_isWord_0 rfl ?_
  refine v_cwI hc (m_V' (As := []) (b := this) (rest := []) 0 hc hr (fun l D tys base => ct9_see l D tys base h this) (fun x hx => ob9_see hx) rfl s9_see w_1367 rfl ⟨Nat.le_of_ble_eq_true rfl, Nat.le_of_ble_eq_true rfl⟩ ⟨Nat.le_of_ble_eq_true rfl, Nat.le_of_ble_eq_true rfl⟩ (Nat.le_of_ble_eq_true rfl) dX9_isWord_1) fun x1 => ?_
  refine v_pop hc dX9_isWord_4 rfl ?_
  refine v_lconst (x := (0 : Int64)) hc dX9_isWord_5 (by decide) ?_
  refine v_nmL fun x6 => ?_
  refine v_lstore_n (i := 3) (L' := [(3, .long x6), (0, .ref this), (1, .long p0)]) hc dX9_isWord_6 rfl (hn 4 (Nat.le_of_ble_eq_true rfl)) rfl ?_
  refine v_iconst (x := (0 : Int32)) hc dX9_isWord_7 zi_0 ?_
  refine v_istore (i := 5) (L' := [(5, .int (0 : Int32)), (3, .long x6), (0, .ref this), (1, .long p0)]) hc dX9_isWord_8 (hn 5 (Nat.le_of_ble_eq_true rfl)) rfl ?_
  refine v_sub (L' := [(0, .ref this), (1, .long p0), (3, .long x6), (5, .int (0 : Int32))]) [2, 3, 1, 0] rfl ?_
  exact vl9_isWord_10 hc hr hq hL x1.2 this p0 FU x6 (0 : Int32)
theorem s9_isWord : YV yX9_isWord RX9 cX9_isWord 6 (some .boolean) 1 := ⟨w_1375, w_1374, w_65, w_118, rfl, by decide +kernel, by decide +kernel, by decide +kernel⟩
def f9_fails (h : AH) (this : Nat) (p0 : Int32) (p1 : Int32) : Option (Bool × AH) := (hObj 9 h this).bind fun _ => (fI 9 17 h this).bind fun x1 => (if x1 = 0 then (fS 9 17 h this (.int (((1 : Int32) + ((8 : Int32) * p1)) + p0))).bind fun h16 => some (false, h16) else some (false, h))
theorem ob9_fails {h : AH} {this : Nat} {p0 : Int32} {p1 : Int32} {x : Bool × AH} (e : f9_fails h this p0 p1 = some x) : ∃ fs, hObj 9 h this = some fs := by
  unfold f9_fails at e
  obtain ⟨fs, h1, -⟩ := bd e
  exact ⟨fs, h1⟩
set_option maxRecDepth 100000 in
theorem ct9_fails (l : Launch) (D : va_G) (tys : Tys) (base : Nat) (h : AH) (this : Nat) (p0 : Int32) (p1 : Int32) : Ct l D tys base yX9_fails cX9_fails 3 (some .boolean) 0 0 0 0 [.ref this, .int p0, .int p1] h (wB) (f9_fails h this p0 p1) := by
  refine Ct.intro (own := RX9) (L := [(0, .ref this), (1, .int p0), (2, .int p1)]) rfl (by decide) rfl (Nat.le_of_ble_eq_true rfl) fun κ hc hr hq hi hL => ?_
  have hn : ∀ i, i < 3 → i < κ.2.2.2.2.1 := fun i q => hL ▸ q
  unfold f9_fails
  refine v_obj ?_
  refine v_aload_n (i := 0) hc 0 rfl dX9_fails_0 rfl ?_
  refine v_getV hc kX9 17 (by decide) w_1148 rfl dX9_fails_1 (gI rfl fun x1 => ?_)
  refine v_if_ne hc 19 dX9_fails_4 rfl ?_ ?_
  · refine v_iconst (x := (0 : Int32)) hc dX9_fails_19 zi_0 ?_
    exact v_iret (v := bI false) hc hq rfl (nar_b false) (Nat.le_of_ble_eq_true rfl) (Nat.le_of_ble_eq_true rfl) rfl dX9_fails_20
  · refine v_aload_n (i := 0) hc 0 rfl dX9_fails_7 rfl ?_
    refine v_iconst (x := (1 : Int32)) hc dX9_fails_8 zi_1 ?_
    refine v_bipush (x := (8 : Int32)) hc dX9_fails_9 zb_8 ?_
    refine v_iload_n (i := 2) hc 2 rfl dX9_fails_11 rfl ?_
    refine v_imul hc dX9_fails_12 ?_
    refine v_iadd hc dX9_fails_13 ?_
    refine v_iload_n (i := 1) hc 1 rfl dX9_fails_14 rfl ?_
    refine v_iadd hc dX9_fails_15 ?_
    refine v_put hc kX9 17 (by decide) w_1148 rfl rfl dX9_fails_16 ⟨rfl, rfl⟩ fun h16 => ?_
    refine v_iconst (x := (0 : Int32)) hc dX9_fails_19 zi_0 ?_
    exact v_iret (v := bI false) hc hq rfl (nar_b false) (Nat.le_of_ble_eq_true rfl) (Nat.le_of_ble_eq_true rfl) rfl dX9_fails_20
theorem s9_fails : YV yX9_fails RX9 cX9_fails 3 (some .boolean) 2 := ⟨w_1389, w_1388, w_67, w_118, rfl, by decide +kernel, by decide +kernel, by decide +kernel⟩
def f9_passWord_0 (v0 : Nat) : Nat → AH → Option (AH)
  | 0, _ => none
  | n + 1, h => (fI 9 16 h v0).bind fun x2 => (f9_isLetter h v0 x2).bind fun x5 => (if x5 = true then (fI 9 16 h v0).bind fun x13 => (fS 9 16 h v0 (.int (x13 + (1 : Int32)))).bind fun h18 => f9_passWord_0 v0 n h18 else some h)
set_option maxRecDepth 100000 in
theorem vl9_passWord_0 {κ : Kx} (hc : CX κ RX9 cX9_passWord) (hr : RX κ ({ frames := 1, cells := 0, slots := 0, locals := 21 } : Room)) (hq : QX κ none 0 0) (hL : 1 = κ.2.2.2.2.1)  (v0 : Nat) : ∀ n (h : AH), V κ (wV) 0 0 0 [(0, .ref v0)] [] h (f9_passWord_0 v0 n h) := by
  have hn : ∀ i, i < 1 → i < κ.2.2.2.2.1 := fun i q => hL ▸ q
  intro n
  induction n with
  | zero => intros; exact v_none
  | succ n ih =>
    intro h
    rw [f9_passWord_0.eq_2]
    refine v_aload_n (i := 0) hc 0 rfl dX9_passWord_0 rfl ?_
    refine v_aload_n (i := 0) hc 0 rfl dX9_passWord_1 rfl ?_
    refine v_getV hc kX9 16 (by decide) w_1147 rfl dX9_passWord_2 (gI rfl fun x2 => ?_)
    refine v_cB hc (m_V' (As := [.int x2]) (b := v0) (rest := []) 1 hc hr (fun l D tys base => ct9_isLetter l D tys base h v0 x2) (fun x hx => ob9_isLetter hx) rfl s9_isLetter w_1376 rfl ⟨Nat.le_of_ble_eq_true rfl, Nat.le_of_ble_eq_true rfl⟩ ⟨Nat.le_of_ble_eq_true rfl, Nat.le_of_ble_eq_true rfl⟩ (Nat.le_of_ble_eq_true rfl) dX9_passWord_5) fun x5 => ?_
    refine v_ifb_eq hc 24 dX9_passWord_8 rfl ?_ ?_
    · exact v_vret hc hq (Nat.le_of_ble_eq_true rfl) (Nat.le_of_ble_eq_true rfl) rfl dX9_passWord_24
    · refine v_aload_n (i := 0) hc 0 rfl dX9_passWord_11 rfl ?_
      refine v_dup hc dX9_passWord_12 rfl ?_
      refine v_getV hc kX9 16 (by decide) w_1147 rfl dX9_passWord_13 (gI rfl fun x13 => ?_)
      refine v_iconst (x := (1 : Int32)) hc dX9_passWord_16 zi_1 ?_
      refine v_iadd hc dX9_passWord_17 ?_
      refine v_put hc kX9 16 (by decide) w_1147 rfl rfl dX9_passWord_18 ⟨rfl, rfl⟩ fun h18 => ?_
      refine v_goto hc 0 dX9_passWord_21 rfl ?_
      refine v_sub (L' := [(0, .ref v0)]) [0] rfl ?_
      exact ih h18
def f9_passWord (h : AH) (this : Nat) : Option (AH) := (hObj 9 h this).bind fun _ => f9_passWord_0 this FU h
theorem ob9_passWord {h : AH} {this : Nat} {x : AH} (e : f9_passWord h this = some x) : ∃ fs, hObj 9 h this = some fs := by
  unfold f9_passWord at e
  obtain ⟨fs, h1, -⟩ := bd e
  exact ⟨fs, h1⟩
set_option maxRecDepth 100000 in
theorem ct9_passWord (l : Launch) (D : va_G) (tys : Tys) (base : Nat) (h : AH) (this : Nat) : Ct l D tys base yX9_passWord cX9_passWord 1 none 1 21 0 0 [.ref this] h (wV) (f9_passWord h this) := by
  refine Ct.intro (own := RX9) (L := [(0, .ref this)]) rfl (by decide) rfl (Nat.le_of_ble_eq_true rfl) fun κ hc hr hq hi hL => ?_
  have hn : ∀ i, i < 1 → i < κ.2.2.2.2.1 := fun i q => hL ▸ q
  unfold f9_passWord
  refine v_obj ?_
  refine v_sub (L' := [(0, .ref this)]) [0] rfl ?_
  exact vl9_passWord_0 hc hr hq hL this FU h
theorem s9_passWord : YV yX9_passWord RX9 cX9_passWord 1 none 0 := ⟨w_1397, w_1396, w_69, w_118, rfl, by decide +kernel, by decide +kernel, by decide +kernel⟩
def f9_isDigit (h : AH) (this : Nat) (p0 : Int32) : Option (Bool) := (hObj 9 h this).bind fun _ => (fI 9 2 h this).bind fun x2 => (if x2 ≤ p0 then some false else (fR 9 1 h this).bind fun x9 => (aI 2 h x9 p0).bind fun x13 => (if x13 < (48 : Int32) then some false else (fR 9 1 h this).bind fun x20 => (aI 2 h x20 p0).bind fun x24 => (if (57 : Int32) < x24 then some false else some true)))
theorem ob9_isDigit {h : AH} {this : Nat} {p0 : Int32} {x : Bool} (e : f9_isDigit h this p0 = some x) : ∃ fs, hObj 9 h this = some fs := by
  unfold f9_isDigit at e
  obtain ⟨fs, h1, -⟩ := bd e
  exact ⟨fs, h1⟩
set_option maxRecDepth 100000 in
theorem ct9_isDigit (l : Launch) (D : va_G) (tys : Tys) (base : Nat) (h : AH) (this : Nat) (p0 : Int32) : Ct l D tys base yX9_isDigit cX9_isDigit 2 (some .boolean) 0 0 0 0 [.ref this, .int p0] h (rB h) (f9_isDigit h this p0) := by
  refine Ct.intro (own := RX9) (L := [(0, .ref this), (1, .int p0)]) rfl (by decide) rfl (Nat.le_of_ble_eq_true rfl) fun κ hc hr hq hi hL => ?_
  have hn : ∀ i, i < 2 → i < κ.2.2.2.2.1 := fun i q => hL ▸ q
  unfold f9_isDigit
  refine v_obj ?_
  refine v_iload_n (i := 1) hc 1 rfl dX9_isDigit_0 rfl ?_
  refine v_aload_n (i := 0) hc 0 rfl dX9_isDigit_1 rfl ?_
  refine v_getV hc kX9 2 (by decide) w_1133 rfl dX9_isDigit_2 (gI rfl fun x2 => ?_)
  refine v_icmp_ge hc 34 dX9_isDigit_5 rfl ?_ ?_
  · refine v_iconst (x := (0 : Int32)) hc dX9_isDigit_34 zi_0 ?_
    exact v_iret (v := bI false) hc hq rfl (nar_b false) (Nat.le_of_ble_eq_true rfl) (Nat.le_of_ble_eq_true rfl) rfl dX9_isDigit_35
  · refine v_aload_n (i := 0) hc 0 rfl dX9_isDigit_8 rfl ?_
    refine v_getV hc kX9 1 (by decide) w_1132 rfl dX9_isDigit_9 (gR rfl fun x9 => ?_)
    refine v_iload_n (i := 1) hc 1 rfl dX9_isDigit_12 rfl ?_
    refine v_bald hc dX9_isDigit_13 fun x13 => ?_
    refine v_bipush (x := (48 : Int32)) hc dX9_isDigit_14 zb_48 ?_
    refine v_icmp_lt hc 34 dX9_isDigit_16 rfl ?_ ?_
    · refine v_iconst (x := (0 : Int32)) hc dX9_isDigit_34 zi_0 ?_
      exact v_iret (v := bI false) hc hq rfl (nar_b false) (Nat.le_of_ble_eq_true rfl) (Nat.le_of_ble_eq_true rfl) rfl dX9_isDigit_35
    · refine v_aload_n (i := 0) hc 0 rfl dX9_isDigit_19 rfl ?_
      refine v_getV hc kX9 1 (by decide) w_1132 rfl dX9_isDigit_20 (gR rfl fun x20 => ?_)
      refine v_iload_n (i := 1) hc 1 rfl dX9_isDigit_23 rfl ?_
      refine v_bald hc dX9_isDigit_24 fun x24 => ?_
      refine v_bipush (x := (57 : Int32)) hc dX9_isDigit_25 zb_57 ?_
      refine v_icmp_gt hc 34 dX9_isDigit_27 rfl ?_ ?_
      · refine v_iconst (x := (0 : Int32)) hc dX9_isDigit_34 zi_0 ?_
        exact v_iret (v := bI false) hc hq rfl (nar_b false) (Nat.le_of_ble_eq_true rfl) (Nat.le_of_ble_eq_true rfl) rfl dX9_isDigit_35
      · refine v_iconst (x := (1 : Int32)) hc dX9_isDigit_30 zi_1 ?_
        refine v_goto hc 35 dX9_isDigit_31 rfl ?_
        exact v_iret (v := bI true) hc hq rfl (nar_b true) (Nat.le_of_ble_eq_true rfl) (Nat.le_of_ble_eq_true rfl) rfl dX9_isDigit_35
theorem s9_isDigit : YV yX9_isDigit RX9 cX9_isDigit 2 (some .boolean) 1 := ⟨w_1413, w_1412, w_73, w_118, rfl, by decide +kernel, by decide +kernel, by decide +kernel⟩
def f9_number_34 (v0 : Nat) (v1 : Int32) (v2 : Int32) (v3 : Int32) : Nat → AH → Int32 → Option (Bool × AH)
  | 0, _, _ => none
  | n + 1, h, v4 => (fI 9 16 h v0).bind fun x36 => (f9_isDigit h v0 x36).bind fun x39 => (if x39 = true then (fI 9 16 h v0).bind fun x46 => (if (5 : Int32) ≤ (x46 - v3) then (fI 9 16 h v0).bind fun x77 => (fS 9 16 h v0 (.int (x77 + (1 : Int32)))).bind fun h82 => f9_number_34 v0 v1 v2 v3 n h82 v4 else (fR 9 1 h v0).bind fun x61 => (fI 9 16 h v0).bind fun x65 => (aI 2 h x61 x65).bind fun x68 => (some ((((10 : Int32) * v4) + x68) - (48 : Int32))).bind fun x73 => (fI 9 16 h v0).bind fun x77 => (fS 9 16 h v0 (.int (x77 + (1 : Int32)))).bind fun h82 => f9_number_34 v0 v1 v2 v3 n h82 x73) else (fS 9 18 h v0 (.int v4)).bind fun h91 => (fI 9 16 h91 v0).bind fun x95 => (if (5 : Int32) < (x95 - v3) then (f9_fails h91 v0 (1 : Int32) v3).bind fun x120 => (if x120.1 = true then some (true, x120.2) else some (false, x120.2)) else (f9_in h91 v4.toInt64 v1.toInt64 v2.toInt64).bind fun x111 => (if x111 = true then some (true, h91) else (f9_fails h91 v0 (1 : Int32) v3).bind fun x120 => (if x120.1 = true then some (true, x120.2) else some (false, x120.2)))))
set_option maxRecDepth 100000 in
theorem vl9_number_34 {κ : Kx} (hc : CX κ RX9 cX9_number) (hr : RX κ ({ frames := 1, cells := 0, slots := 0, locals := 25 } : Room)) (hq : QX κ (some .boolean) 0 0) (hL : 5 = κ.2.2.2.2.1)  (v0 : Nat) (v1 : Int32) (v2 : Int32) (v3 : Int32) : ∀ n (h : AH) (v4 : Int32), V κ (wB) 0 0 34 [(0, .ref v0), (1, .int v1), (2, .int v2), (3, .int v3), (4, .int v4)] [] h (f9_number_34 v0 v1 v2 v3 n h v4) := by
  have hn : ∀ i, i < 5 → i < κ.2.2.2.2.1 := fun i q => hL ▸ q
  intro n
  induction n with
  | zero => intros; exact v_none
  | succ n ih =>
    intro h v4
    rw [f9_number_34.eq_2]
    refine v_aload_n (i := 0) hc 0 rfl dX9_number_34 rfl ?_
    refine v_aload_n (i := 0) hc 0 rfl dX9_number_35 rfl ?_
    refine v_getV hc kX9 16 (by decide) w_1147 rfl dX9_number_36 (gI rfl fun x36 => ?_)
    refine v_cB hc (m_V' (As := [.int x36]) (b := v0) (rest := []) 1 hc hr (fun l D tys base => ct9_isDigit l D tys base h v0 x36) (fun x hx => ob9_isDigit hx) rfl s9_isDigit w_1410 rfl ⟨Nat.le_of_ble_eq_true rfl, Nat.le_of_ble_eq_true rfl⟩ ⟨Nat.le_of_ble_eq_true rfl, Nat.le_of_ble_eq_true rfl⟩ (Nat.le_of_ble_eq_true rfl) dX9_number_39) fun x39 => ?_
    refine v_ifb_eq hc 88 dX9_number_42 rfl ?_ ?_
    · refine v_aload_n (i := 0) hc 0 rfl dX9_number_88 rfl ?_
      refine v_iload (i := 4) hc 4 rfl dX9_number_89 ?_
      refine v_put hc kX9 18 (by decide) w_1149 rfl rfl dX9_number_91 ⟨rfl, rfl⟩ fun h91 => ?_
      refine v_aload_n (i := 0) hc 0 rfl dX9_number_94 rfl ?_
      refine v_getV hc kX9 16 (by decide) w_1147 rfl dX9_number_95 (gI rfl fun x95 => ?_)
      refine v_iload_n (i := 3) hc 3 rfl dX9_number_98 rfl ?_
      refine v_isub hc dX9_number_99 ?_
      refine v_iconst (x := (5 : Int32)) hc dX9_number_100 zi_5 ?_
      refine v_icmp_gt hc 117 dX9_number_101 rfl ?_ ?_
      · refine v_aload_n (i := 0) hc 0 rfl dX9_number_117 rfl ?_
        refine v_iconst (x := (1 : Int32)) hc dX9_number_118 zi_1 ?_
        refine v_iload_n (i := 3) hc 3 rfl dX9_number_119 rfl ?_
        refine v_cwB hc (m_V' (As := [.int (1 : Int32), .int v3]) (b := v0) (rest := []) 2 hc hr (fun l D tys base => ct9_fails l D tys base h91 v0 (1 : Int32) v3) (fun x hx => ob9_fails hx) rfl s9_fails w_1386 rfl ⟨Nat.le_of_ble_eq_true rfl, Nat.le_of_ble_eq_true rfl⟩ ⟨Nat.le_of_ble_eq_true rfl, Nat.le_of_ble_eq_true rfl⟩ (Nat.le_of_ble_eq_true rfl) dX9_number_120) fun x120 => ?_
        refine v_ifb_eq hc 130 dX9_number_123 rfl ?_ ?_
        · refine v_iconst (x := (0 : Int32)) hc dX9_number_130 zi_0 ?_
          exact v_iret (v := bI false) hc hq rfl (nar_b false) (Nat.le_of_ble_eq_true rfl) (Nat.le_of_ble_eq_true rfl) rfl dX9_number_131
        · refine v_iconst (x := (1 : Int32)) hc dX9_number_126 zi_1 ?_
          refine v_goto hc 131 dX9_number_127 rfl ?_
          exact v_iret (v := bI true) hc hq rfl (nar_b true) (Nat.le_of_ble_eq_true rfl) (Nat.le_of_ble_eq_true rfl) rfl dX9_number_131
      · refine v_iload (i := 4) hc 4 rfl dX9_number_104 ?_
        refine v_i2l hc dX9_number_106 ?_
        refine v_iload_n (i := 1) hc 1 rfl dX9_number_107 rfl ?_
        refine v_i2l hc dX9_number_108 ?_
        refine v_iload_n (i := 2) hc 2 rfl dX9_number_109 rfl ?_
        refine v_i2l hc dX9_number_110 ?_
        refine v_cB hc (m_S' (As := [.long v4.toInt64, .long v1.toInt64, .long v2.toInt64]) (rest := []) 3 hc hr (fun l D tys base => ct9_in l D tys base h91 v4.toInt64 v1.toInt64 v2.toInt64) s9_in w_1246 rfl ⟨Nat.le_of_ble_eq_true rfl, Nat.le_of_ble_eq_true rfl⟩ ⟨Nat.le_of_ble_eq_true rfl, Nat.le_of_ble_eq_true rfl⟩ (Nat.le_of_ble_eq_true rfl) dX9_number_111) fun x111 => ?_
        refine v_ifb_ne hc 126 dX9_number_114 rfl ?_ ?_
        · refine v_iconst (x := (1 : Int32)) hc dX9_number_126 zi_1 ?_
          refine v_goto hc 131 dX9_number_127 rfl ?_
          exact v_iret (v := bI true) hc hq rfl (nar_b true) (Nat.le_of_ble_eq_true rfl) (Nat.le_of_ble_eq_true rfl) rfl dX9_number_131
        · refine v_aload_n (i := 0) hc 0 rfl dX9_number_117 rfl ?_
          refine v_iconst (x := (1 : Int32)) hc dX9_number_118 zi_1 ?_
          refine v_iload_n (i := 3) hc 3 rfl dX9_number_119 rfl ?_
          refine v_cwB hc (m_V' (As := [.int (1 : Int32), .int v3]) (b := v0) (rest := []) 2 hc hr (fun l D tys base => ct9_fails l D tys base h91 v0 (1 : Int32) v3) (fun x hx => ob9_fails hx) rfl s9_fails w_1386 rfl ⟨Nat.le_of_ble_eq_true rfl, Nat.le_of_ble_eq_true rfl⟩ ⟨Nat.le_of_ble_eq_true rfl, Nat.le_of_ble_eq_true rfl⟩ (Nat.le_of_ble_eq_true rfl) dX9_number_120) fun x120 => ?_
          refine v_ifb_eq hc 130 dX9_number_123 rfl ?_ ?_
          · refine v_iconst (x := (0 : Int32)) hc dX9_number_130 zi_0 ?_
            exact v_iret (v := bI false) hc hq rfl (nar_b false) (Nat.le_of_ble_eq_true rfl) (Nat.le_of_ble_eq_true rfl) rfl dX9_number_131
          · refine v_iconst (x := (1 : Int32)) hc dX9_number_126 zi_1 ?_
            refine v_goto hc 131 dX9_number_127 rfl ?_
            exact v_iret (v := bI true) hc hq rfl (nar_b true) (Nat.le_of_ble_eq_true rfl) (Nat.le_of_ble_eq_true rfl) rfl dX9_number_131
    · refine v_aload_n (i := 0) hc 0 rfl dX9_number_45 rfl ?_
      refine v_getV hc kX9 16 (by decide) w_1147 rfl dX9_number_46 (gI rfl fun x46 => ?_)
      refine v_iload_n (i := 3) hc 3 rfl dX9_number_49 rfl ?_
      refine v_isub hc dX9_number_50 ?_
      refine v_iconst (x := (5 : Int32)) hc dX9_number_51 zi_5 ?_
      refine v_icmp_ge hc 75 dX9_number_52 rfl ?_ ?_
      · refine v_aload_n (i := 0) hc 0 rfl dX9_number_75 rfl ?_
        refine v_dup hc dX9_number_76 rfl ?_
        refine v_getV hc kX9 16 (by decide) w_1147 rfl dX9_number_77 (gI rfl fun x77 => ?_)
        refine v_iconst (x := (1 : Int32)) hc dX9_number_80 zi_1 ?_
        refine v_iadd hc dX9_number_81 ?_
        refine v_put hc kX9 16 (by decide) w_1147 rfl rfl dX9_number_82 ⟨rfl, rfl⟩ fun h82 => ?_
        refine v_goto hc 34 dX9_number_85 rfl ?_
        refine v_sub (L' := [(0, .ref v0), (1, .int v1), (2, .int v2), (3, .int v3), (4, .int v4)]) [0, 1, 2, 3, 4] rfl ?_
        exact ih h82 v4
      · refine v_bipush (x := (10 : Int32)) hc dX9_number_55 zb_10 ?_
        refine v_iload (i := 4) hc 4 rfl dX9_number_57 ?_
        refine v_imul hc dX9_number_59 ?_
        refine v_aload_n (i := 0) hc 0 rfl dX9_number_60 rfl ?_
        refine v_getV hc kX9 1 (by decide) w_1132 rfl dX9_number_61 (gR rfl fun x61 => ?_)
        refine v_aload_n (i := 0) hc 0 rfl dX9_number_64 rfl ?_
        refine v_getV hc kX9 16 (by decide) w_1147 rfl dX9_number_65 (gI rfl fun x65 => ?_)
        refine v_bald hc dX9_number_68 fun x68 => ?_
        refine v_iadd hc dX9_number_69 ?_
        refine v_bipush (x := (48 : Int32)) hc dX9_number_70 zb_48 ?_
        refine v_isub hc dX9_number_72 ?_
        refine v_nmI fun x73 => ?_
        refine v_istore (i := 4) (L' := [(4, .int x73), (0, .ref v0), (1, .int v1), (2, .int v2), (3, .int v3)]) hc dX9_number_73 (hn 4 (Nat.le_of_ble_eq_true rfl)) rfl ?_
        refine v_aload_n (i := 0) hc 1 rfl dX9_number_75 rfl ?_
        refine v_dup hc dX9_number_76 rfl ?_
        refine v_getV hc kX9 16 (by decide) w_1147 rfl dX9_number_77 (gI rfl fun x77 => ?_)
        refine v_iconst (x := (1 : Int32)) hc dX9_number_80 zi_1 ?_
        refine v_iadd hc dX9_number_81 ?_
        refine v_put hc kX9 16 (by decide) w_1147 rfl rfl dX9_number_82 ⟨rfl, rfl⟩ fun h82 => ?_
        refine v_goto hc 34 dX9_number_85 rfl ?_
        refine v_sub (L' := [(0, .ref v0), (1, .int v1), (2, .int v2), (3, .int v3), (4, .int x73)]) [1, 2, 3, 4, 0] rfl ?_
        exact ih h82 x73
def f9_number (h : AH) (this : Nat) (p0 : Int32) (p1 : Int32) : Option (Bool × AH) := (hObj 9 h this).bind fun _ => (f9_see h this).bind fun x1 => (fI 9 16 x1.2 this).bind fun x7 => (f9_isDigit x1.2 this x7).bind fun x10 => (if x10 = true then (fI 9 16 x1.2 this).bind fun x27 => f9_number_34 this p0 p1 x27 FU x1.2 (0 : Int32) else (fI 9 16 x1.2 this).bind fun x19 => (f9_fails x1.2 this (0 : Int32) x19).bind fun x22 => some (x22.1, x22.2))
theorem ob9_number {h : AH} {this : Nat} {p0 : Int32} {p1 : Int32} {x : Bool × AH} (e : f9_number h this p0 p1 = some x) : ∃ fs, hObj 9 h this = some fs := by
  unfold f9_number at e
  obtain ⟨fs, h1, -⟩ := bd e
  exact ⟨fs, h1⟩
set_option maxRecDepth 100000 in
theorem ct9_number (l : Launch) (D : va_G) (tys : Tys) (base : Nat) (h : AH) (this : Nat) (p0 : Int32) (p1 : Int32) : Ct l D tys base yX9_number cX9_number 5 (some .boolean) 1 25 0 0 [.ref this, .int p0, .int p1] h (wB) (f9_number h this p0 p1) := by
  refine Ct.intro (own := RX9) (L := [(0, .ref this), (1, .int p0), (2, .int p1)]) rfl (by decide) rfl (Nat.le_of_ble_eq_true rfl) fun κ hc hr hq hi hL => ?_
  have hn : ∀ i, i < 5 → i < κ.2.2.2.2.1 := fun i q => hL ▸ q
  unfold f9_number
  refine v_obj ?_
  refine v_aload_n (i := 0) hc 0 rfl dX9_number_0 rfl ?_
  refine v_cwI hc (m_V' (As := []) (b := this) (rest := []) 0 hc hr (fun l D tys base => ct9_see l D tys base h this) (fun x hx => ob9_see hx) rfl s9_see w_1367 rfl ⟨Nat.le_of_ble_eq_true rfl, Nat.le_of_ble_eq_true rfl⟩ ⟨Nat.le_of_ble_eq_true rfl, Nat.le_of_ble_eq_true rfl⟩ (Nat.le_of_ble_eq_true rfl) dX9_number_1) fun x1 => ?_
  refine v_pop hc dX9_number_4 rfl ?_
  refine v_aload_n (i := 0) hc 0 rfl dX9_number_5 rfl ?_
  refine v_aload_n (i := 0) hc 0 rfl dX9_number_6 rfl ?_
  refine v_getV hc kX9 16 (by decide) w_1147 rfl dX9_number_7 (gI rfl fun x7 => ?_)
  refine v_cB hc (m_V' (As := [.int x7]) (b := this) (rest := []) 1 hc hr (fun l D tys base => ct9_isDigit l D tys base x1.2 this x7) (fun x hx => ob9_isDigit hx) rfl s9_isDigit w_1410 rfl ⟨Nat.le_of_ble_eq_true rfl, Nat.le_of_ble_eq_true rfl⟩ ⟨Nat.le_of_ble_eq_true rfl, Nat.le_of_ble_eq_true rfl⟩ (Nat.le_of_ble_eq_true rfl) dX9_number_10) fun x10 => ?_
  refine v_ifb_ne hc 26 dX9_number_13 rfl ?_ ?_
  · refine v_aload_n (i := 0) hc 0 rfl dX9_number_26 rfl ?_
    refine v_getV hc kX9 16 (by decide) w_1147 rfl dX9_number_27 (gI rfl fun x27 => ?_)
    refine v_istore_n (i := 3) (L' := [(3, .int x27), (0, .ref this), (1, .int p0), (2, .int p1)]) hc dX9_number_30 rfl (hn 3 (Nat.le_of_ble_eq_true rfl)) rfl ?_
    refine v_iconst (x := (0 : Int32)) hc dX9_number_31 zi_0 ?_
    refine v_istore (i := 4) (L' := [(4, .int (0 : Int32)), (3, .int x27), (0, .ref this), (1, .int p0), (2, .int p1)]) hc dX9_number_32 (hn 4 (Nat.le_of_ble_eq_true rfl)) rfl ?_
    refine v_sub (L' := [(0, .ref this), (1, .int p0), (2, .int p1), (3, .int x27), (4, .int (0 : Int32))]) [2, 3, 4, 1, 0] rfl ?_
    exact vl9_number_34 hc hr hq hL this p0 p1 x27 FU x1.2 (0 : Int32)
  · refine v_aload_n (i := 0) hc 0 rfl dX9_number_16 rfl ?_
    refine v_iconst (x := (0 : Int32)) hc dX9_number_17 zi_0 ?_
    refine v_aload_n (i := 0) hc 0 rfl dX9_number_18 rfl ?_
    refine v_getV hc kX9 16 (by decide) w_1147 rfl dX9_number_19 (gI rfl fun x19 => ?_)
    refine v_cwB hc (m_V' (As := [.int (0 : Int32), .int x19]) (b := this) (rest := []) 2 hc hr (fun l D tys base => ct9_fails l D tys base x1.2 this (0 : Int32) x19) (fun x hx => ob9_fails hx) rfl s9_fails w_1386 rfl ⟨Nat.le_of_ble_eq_true rfl, Nat.le_of_ble_eq_true rfl⟩ ⟨Nat.le_of_ble_eq_true rfl, Nat.le_of_ble_eq_true rfl⟩ (Nat.le_of_ble_eq_true rfl) dX9_number_22) fun x22 => ?_
    exact v_iret (v := bI x22.1) hc hq rfl (nar_b x22.1) (Nat.le_of_ble_eq_true rfl) (Nat.le_of_ble_eq_true rfl) rfl dX9_number_25
theorem s9_number : YV yX9_number RX9 cX9_number 5 (some .boolean) 2 := ⟨w_1418, w_1417, w_74, w_118, rfl, by decide +kernel, by decide +kernel, by decide +kernel⟩
def f9_makes (h : AH) (this : Nat) (p0 : Int32) : Option (Bool × AH) := (hObj 9 h this).bind fun _ => (fI 9 20 h this).bind fun x1 => (if x1 = (60 : Int32) then (f9_fails h this (3 : Int32) p0).bind fun x12 => some (x12.1, x12.2) else (fI 9 20 h this).bind fun x18 => (fS 9 20 h this (.int (x18 + (1 : Int32)))).bind fun h23 => some (true, h23))
theorem ob9_makes {h : AH} {this : Nat} {p0 : Int32} {x : Bool × AH} (e : f9_makes h this p0 = some x) : ∃ fs, hObj 9 h this = some fs := by
  unfold f9_makes at e
  obtain ⟨fs, h1, -⟩ := bd e
  exact ⟨fs, h1⟩
set_option maxRecDepth 100000 in
theorem ct9_makes (l : Launch) (D : va_G) (tys : Tys) (base : Nat) (h : AH) (this : Nat) (p0 : Int32) : Ct l D tys base yX9_makes cX9_makes 2 (some .boolean) 1 22 0 0 [.ref this, .int p0] h (wB) (f9_makes h this p0) := by
  refine Ct.intro (own := RX9) (L := [(0, .ref this), (1, .int p0)]) rfl (by decide) rfl (Nat.le_of_ble_eq_true rfl) fun κ hc hr hq hi hL => ?_
  have hn : ∀ i, i < 2 → i < κ.2.2.2.2.1 := fun i q => hL ▸ q
  unfold f9_makes
  refine v_obj ?_
  refine v_aload_n (i := 0) hc 0 rfl dX9_makes_0 rfl ?_
  refine v_getV hc kX9 20 (by decide) w_1151 rfl dX9_makes_1 (gI rfl fun x1 => ?_)
  refine v_bipush (x := (60 : Int32)) hc dX9_makes_4 zb_60 ?_
  refine v_icmp_ne hc 16 dX9_makes_6 rfl ?_ ?_
  · refine v_aload_n (i := 0) hc 0 rfl dX9_makes_16 rfl ?_
    refine v_dup hc dX9_makes_17 rfl ?_
    refine v_getV hc kX9 20 (by decide) w_1151 rfl dX9_makes_18 (gI rfl fun x18 => ?_)
    refine v_iconst (x := (1 : Int32)) hc dX9_makes_21 zi_1 ?_
    refine v_iadd hc dX9_makes_22 ?_
    refine v_put hc kX9 20 (by decide) w_1151 rfl rfl dX9_makes_23 ⟨rfl, rfl⟩ fun h23 => ?_
    refine v_iconst (x := (1 : Int32)) hc dX9_makes_26 zi_1 ?_
    exact v_iret (v := bI true) hc hq rfl (nar_b true) (Nat.le_of_ble_eq_true rfl) (Nat.le_of_ble_eq_true rfl) rfl dX9_makes_27
  · refine v_aload_n (i := 0) hc 0 rfl dX9_makes_9 rfl ?_
    refine v_iconst (x := (3 : Int32)) hc dX9_makes_10 zi_3 ?_
    refine v_iload_n (i := 1) hc 1 rfl dX9_makes_11 rfl ?_
    refine v_cwB hc (m_V' (As := [.int (3 : Int32), .int p0]) (b := this) (rest := []) 2 hc hr (fun l D tys base => ct9_fails l D tys base h this (3 : Int32) p0) (fun x hx => ob9_fails hx) rfl s9_fails w_1386 rfl ⟨Nat.le_of_ble_eq_true rfl, Nat.le_of_ble_eq_true rfl⟩ ⟨Nat.le_of_ble_eq_true rfl, Nat.le_of_ble_eq_true rfl⟩ (Nat.le_of_ble_eq_true rfl) dX9_makes_12) fun x12 => ?_
    exact v_iret (v := bI x12.1) hc hq rfl (nar_b x12.1) (Nat.le_of_ble_eq_true rfl) (Nat.le_of_ble_eq_true rfl) rfl dX9_makes_15
theorem s9_makes : YV yX9_makes RX9 cX9_makes 2 (some .boolean) 1 := ⟨w_1422, w_1421, w_75, w_118, rfl, by decide +kernel, by decide +kernel, by decide +kernel⟩
def f9_puts (h : AH) (this : Nat) (p0 : Int32) (p1 : Int32) : Option (AH) := (hObj 9 h this).bind fun _ => (fR 9 3 h this).bind fun x1 => (fI 9 19 h this).bind fun x8 => (fR 9 4 h this).bind fun x13 => (fI 9 19 h this).bind fun x17 => (aI 0 h x13 x17).bind fun x20 => (sI 0 h x1 (((400 : Int32) * x8) + x20) (p0 + ((16 : Int32) * p1))).bind fun h28 => (fR 9 4 h28 this).bind fun x30 => (fI 9 19 h28 this).bind fun x34 => (aI 0 h28 x30 x34).bind fun x38 => (sI 0 h28 x30 x34 (x38 + (1 : Int32))).bind fun h41 => some h41
theorem ob9_puts {h : AH} {this : Nat} {p0 : Int32} {p1 : Int32} {x : AH} (e : f9_puts h this p0 p1 = some x) : ∃ fs, hObj 9 h this = some fs := by
  unfold f9_puts at e
  obtain ⟨fs, h1, -⟩ := bd e
  exact ⟨fs, h1⟩
set_option maxRecDepth 100000 in
theorem ct9_puts (l : Launch) (D : va_G) (tys : Tys) (base : Nat) (h : AH) (this : Nat) (p0 : Int32) (p1 : Int32) : Ct l D tys base yX9_puts cX9_puts 3 none 0 0 0 0 [.ref this, .int p0, .int p1] h (wV) (f9_puts h this p0 p1) := by
  refine Ct.intro (own := RX9) (L := [(0, .ref this), (1, .int p0), (2, .int p1)]) rfl (by decide) rfl (Nat.le_of_ble_eq_true rfl) fun κ hc hr hq hi hL => ?_
  have hn : ∀ i, i < 3 → i < κ.2.2.2.2.1 := fun i q => hL ▸ q
  unfold f9_puts
  refine v_obj ?_
  refine v_aload_n (i := 0) hc 0 rfl dX9_puts_0 rfl ?_
  refine v_getV hc kX9 3 (by decide) w_1134 rfl dX9_puts_1 (gR rfl fun x1 => ?_)
  refine v_sipush (x := (400 : Int32)) hc dX9_puts_4 zs_400 ?_
  refine v_aload_n (i := 0) hc 0 rfl dX9_puts_7 rfl ?_
  refine v_getV hc kX9 19 (by decide) w_1150 rfl dX9_puts_8 (gI rfl fun x8 => ?_)
  refine v_imul hc dX9_puts_11 ?_
  refine v_aload_n (i := 0) hc 0 rfl dX9_puts_12 rfl ?_
  refine v_getV hc kX9 4 (by decide) w_1135 rfl dX9_puts_13 (gR rfl fun x13 => ?_)
  refine v_aload_n (i := 0) hc 0 rfl dX9_puts_16 rfl ?_
  refine v_getV hc kX9 19 (by decide) w_1150 rfl dX9_puts_17 (gI rfl fun x17 => ?_)
  refine v_iald hc dX9_puts_20 fun x20 => ?_
  refine v_iadd hc dX9_puts_21 ?_
  refine v_iload_n (i := 1) hc 1 rfl dX9_puts_22 rfl ?_
  refine v_bipush (x := (16 : Int32)) hc dX9_puts_23 zb_16 ?_
  refine v_iload_n (i := 2) hc 2 rfl dX9_puts_25 rfl ?_
  refine v_imul hc dX9_puts_26 ?_
  refine v_iadd hc dX9_puts_27 ?_
  refine v_iast hc dX9_puts_28 fun h28 => ?_
  refine v_aload_n (i := 0) hc 0 rfl dX9_puts_29 rfl ?_
  refine v_getV hc kX9 4 (by decide) w_1135 rfl dX9_puts_30 (gR rfl fun x30 => ?_)
  refine v_aload_n (i := 0) hc 0 rfl dX9_puts_33 rfl ?_
  refine v_getV hc kX9 19 (by decide) w_1150 rfl dX9_puts_34 (gI rfl fun x34 => ?_)
  refine v_dup2 hc dX9_puts_37 rfl rfl ?_
  refine v_iald hc dX9_puts_38 fun x38 => ?_
  refine v_iconst (x := (1 : Int32)) hc dX9_puts_39 zi_1 ?_
  refine v_iadd hc dX9_puts_40 ?_
  refine v_iast hc dX9_puts_41 fun h41 => ?_
  exact v_vret hc hq (Nat.le_of_ble_eq_true rfl) (Nat.le_of_ble_eq_true rfl) rfl dX9_puts_42
theorem s9_puts : YV yX9_puts RX9 cX9_puts 3 none 2 := ⟨w_1426, w_1425, w_76, w_118, rfl, by decide +kernel, by decide +kernel, by decide +kernel⟩
def f9_wordHere (h : AH) (this : Nat) : Option (Int32 × AH) := (hObj 9 h this).bind fun _ => (f9_isWord h this (418497262196 : Int64)).bind fun x4 => (if x4.1 = true then some ((0 : Int32), x4.2) else (f9_isWord x4.2 this (7305070 : Int64)).bind fun x16 => (if x16.1 = true then some ((1 : Int32), x16.2) else (f9_isWord x16.2 this (1818326117 : Int64)).bind fun x28 => (if x28.1 = true then some ((2 : Int32), x28.2) else (f9_isWord x28.2 this (513021013607 : Int64)).bind fun x40 => (if x40.1 = true then some ((3 : Int32), x40.2) else (f9_isWord x40.2 this (126892148680036 : Int64)).bind fun x52 => (if x52.1 = true then some ((4 : Int32), x52.2) else (f9_isWord x52.2 this (31084806081442405 : Int64)).bind fun x64 => (if x64.1 = true then some ((5 : Int32), x64.2) else (f9_isWord x64.2 this (482670503283 : Int64)).bind fun x76 => (if x76.1 = true then some ((6 : Int32), x76.2) else (f9_isWord x76.2 this (482955846501 : Int64)).bind fun x89 => (if x89.1 = true then some ((7 : Int32), x89.2) else (f9_isWord x89.2 this (2003133803 : Int64)).bind fun x102 => (if x102.1 = true then some ((8 : Int32), x102.2) else (f9_isWord x102.2 this (33336558869112179 : Int64)).bind fun x115 => (if x115.1 = true then some ((9 : Int32), x115.2) else some ((-1 : Int32), x115.2)))))))))))
theorem ob9_wordHere {h : AH} {this : Nat} {x : Int32 × AH} (e : f9_wordHere h this = some x) : ∃ fs, hObj 9 h this = some fs := by
  unfold f9_wordHere at e
  obtain ⟨fs, h1, -⟩ := bd e
  exact ⟨fs, h1⟩
set_option maxRecDepth 100000 in
theorem ct9_wordHere (l : Launch) (D : va_G) (tys : Tys) (base : Nat) (h : AH) (this : Nat) : Ct l D tys base yX9_wordHere cX9_wordHere 1 (some .int) 2 46 0 0 [.ref this] h (wI) (f9_wordHere h this) := by
  refine Ct.intro (own := RX9) (L := [(0, .ref this)]) rfl (by decide) rfl (Nat.le_of_ble_eq_true rfl) fun κ hc hr hq hi hL => ?_
  have hn : ∀ i, i < 1 → i < κ.2.2.2.2.1 := fun i q => hL ▸ q
  unfold f9_wordHere
  refine v_obj ?_
  refine v_aload_n (i := 0) hc 0 rfl dX9_wordHere_0 rfl ?_
  refine v_ldc2 (x := (418497262196 : Int64)) hc w_1431 dX9_wordHere_1 ?_
  refine v_cwB hc (m_V' (As := [.long (418497262196 : Int64)]) (b := this) (rest := []) 1 hc hr (fun l D tys base => ct9_isWord l D tys base h this (418497262196 : Int64)) (fun x hx => ob9_isWord hx) rfl s9_isWord w_1372 rfl ⟨Nat.le_of_ble_eq_true rfl, Nat.le_of_ble_eq_true rfl⟩ ⟨Nat.le_of_ble_eq_true rfl, Nat.le_of_ble_eq_true rfl⟩ (Nat.le_of_ble_eq_true rfl) dX9_wordHere_4) fun x4 => ?_
  refine v_ifb_eq hc 12 dX9_wordHere_7 rfl ?_ ?_
  · refine v_aload_n (i := 0) hc 0 rfl dX9_wordHere_12 rfl ?_
    refine v_ldc2 (x := (7305070 : Int64)) hc w_1432 dX9_wordHere_13 ?_
    refine v_cwB hc (m_V' (As := [.long (7305070 : Int64)]) (b := this) (rest := []) 1 hc hr (fun l D tys base => ct9_isWord l D tys base x4.2 this (7305070 : Int64)) (fun x hx => ob9_isWord hx) rfl s9_isWord w_1372 rfl ⟨Nat.le_of_ble_eq_true rfl, Nat.le_of_ble_eq_true rfl⟩ ⟨Nat.le_of_ble_eq_true rfl, Nat.le_of_ble_eq_true rfl⟩ (Nat.le_of_ble_eq_true rfl) dX9_wordHere_16) fun x16 => ?_
    refine v_ifb_eq hc 24 dX9_wordHere_19 rfl ?_ ?_
    · refine v_aload_n (i := 0) hc 0 rfl dX9_wordHere_24 rfl ?_
      refine v_ldc2 (x := (1818326117 : Int64)) hc w_1433 dX9_wordHere_25 ?_
      refine v_cwB hc (m_V' (As := [.long (1818326117 : Int64)]) (b := this) (rest := []) 1 hc hr (fun l D tys base => ct9_isWord l D tys base x16.2 this (1818326117 : Int64)) (fun x hx => ob9_isWord hx) rfl s9_isWord w_1372 rfl ⟨Nat.le_of_ble_eq_true rfl, Nat.le_of_ble_eq_true rfl⟩ ⟨Nat.le_of_ble_eq_true rfl, Nat.le_of_ble_eq_true rfl⟩ (Nat.le_of_ble_eq_true rfl) dX9_wordHere_28) fun x28 => ?_
      refine v_ifb_eq hc 36 dX9_wordHere_31 rfl ?_ ?_
      · refine v_aload_n (i := 0) hc 0 rfl dX9_wordHere_36 rfl ?_
        refine v_ldc2 (x := (513021013607 : Int64)) hc w_1434 dX9_wordHere_37 ?_
        refine v_cwB hc (m_V' (As := [.long (513021013607 : Int64)]) (b := this) (rest := []) 1 hc hr (fun l D tys base => ct9_isWord l D tys base x28.2 this (513021013607 : Int64)) (fun x hx => ob9_isWord hx) rfl s9_isWord w_1372 rfl ⟨Nat.le_of_ble_eq_true rfl, Nat.le_of_ble_eq_true rfl⟩ ⟨Nat.le_of_ble_eq_true rfl, Nat.le_of_ble_eq_true rfl⟩ (Nat.le_of_ble_eq_true rfl) dX9_wordHere_40) fun x40 => ?_
        refine v_ifb_eq hc 48 dX9_wordHere_43 rfl ?_ ?_
        · refine v_aload_n (i := 0) hc 0 rfl dX9_wordHere_48 rfl ?_
          refine v_ldc2 (x := (126892148680036 : Int64)) hc w_1435 dX9_wordHere_49 ?_
          refine v_cwB hc (m_V' (As := [.long (126892148680036 : Int64)]) (b := this) (rest := []) 1 hc hr (fun l D tys base => ct9_isWord l D tys base x40.2 this (126892148680036 : Int64)) (fun x hx => ob9_isWord hx) rfl s9_isWord w_1372 rfl ⟨Nat.le_of_ble_eq_true rfl, Nat.le_of_ble_eq_true rfl⟩ ⟨Nat.le_of_ble_eq_true rfl, Nat.le_of_ble_eq_true rfl⟩ (Nat.le_of_ble_eq_true rfl) dX9_wordHere_52) fun x52 => ?_
          refine v_ifb_eq hc 60 dX9_wordHere_55 rfl ?_ ?_
          · refine v_aload_n (i := 0) hc 0 rfl dX9_wordHere_60 rfl ?_
            refine v_ldc2 (x := (31084806081442405 : Int64)) hc w_1436 dX9_wordHere_61 ?_
            refine v_cwB hc (m_V' (As := [.long (31084806081442405 : Int64)]) (b := this) (rest := []) 1 hc hr (fun l D tys base => ct9_isWord l D tys base x52.2 this (31084806081442405 : Int64)) (fun x hx => ob9_isWord hx) rfl s9_isWord w_1372 rfl ⟨Nat.le_of_ble_eq_true rfl, Nat.le_of_ble_eq_true rfl⟩ ⟨Nat.le_of_ble_eq_true rfl, Nat.le_of_ble_eq_true rfl⟩ (Nat.le_of_ble_eq_true rfl) dX9_wordHere_64) fun x64 => ?_
            refine v_ifb_eq hc 72 dX9_wordHere_67 rfl ?_ ?_
            · refine v_aload_n (i := 0) hc 0 rfl dX9_wordHere_72 rfl ?_
              refine v_ldc2 (x := (482670503283 : Int64)) hc w_1437 dX9_wordHere_73 ?_
              refine v_cwB hc (m_V' (As := [.long (482670503283 : Int64)]) (b := this) (rest := []) 1 hc hr (fun l D tys base => ct9_isWord l D tys base x64.2 this (482670503283 : Int64)) (fun x hx => ob9_isWord hx) rfl s9_isWord w_1372 rfl ⟨Nat.le_of_ble_eq_true rfl, Nat.le_of_ble_eq_true rfl⟩ ⟨Nat.le_of_ble_eq_true rfl, Nat.le_of_ble_eq_true rfl⟩ (Nat.le_of_ble_eq_true rfl) dX9_wordHere_76) fun x76 => ?_
              refine v_ifb_eq hc 85 dX9_wordHere_79 rfl ?_ ?_
              · refine v_aload_n (i := 0) hc 0 rfl dX9_wordHere_85 rfl ?_
                refine v_ldc2 (x := (482955846501 : Int64)) hc w_1438 dX9_wordHere_86 ?_
                refine v_cwB hc (m_V' (As := [.long (482955846501 : Int64)]) (b := this) (rest := []) 1 hc hr (fun l D tys base => ct9_isWord l D tys base x76.2 this (482955846501 : Int64)) (fun x hx => ob9_isWord hx) rfl s9_isWord w_1372 rfl ⟨Nat.le_of_ble_eq_true rfl, Nat.le_of_ble_eq_true rfl⟩ ⟨Nat.le_of_ble_eq_true rfl, Nat.le_of_ble_eq_true rfl⟩ (Nat.le_of_ble_eq_true rfl) dX9_wordHere_89) fun x89 => ?_
                refine v_ifb_eq hc 98 dX9_wordHere_92 rfl ?_ ?_
                · refine v_aload_n (i := 0) hc 0 rfl dX9_wordHere_98 rfl ?_
                  refine v_ldc2 (x := (2003133803 : Int64)) hc w_1439 dX9_wordHere_99 ?_
                  refine v_cwB hc (m_V' (As := [.long (2003133803 : Int64)]) (b := this) (rest := []) 1 hc hr (fun l D tys base => ct9_isWord l D tys base x89.2 this (2003133803 : Int64)) (fun x hx => ob9_isWord hx) rfl s9_isWord w_1372 rfl ⟨Nat.le_of_ble_eq_true rfl, Nat.le_of_ble_eq_true rfl⟩ ⟨Nat.le_of_ble_eq_true rfl, Nat.le_of_ble_eq_true rfl⟩ (Nat.le_of_ble_eq_true rfl) dX9_wordHere_102) fun x102 => ?_
                  refine v_ifb_eq hc 111 dX9_wordHere_105 rfl ?_ ?_
                  · refine v_aload_n (i := 0) hc 0 rfl dX9_wordHere_111 rfl ?_
                    refine v_ldc2 (x := (33336558869112179 : Int64)) hc w_1440 dX9_wordHere_112 ?_
                    refine v_cwB hc (m_V' (As := [.long (33336558869112179 : Int64)]) (b := this) (rest := []) 1 hc hr (fun l D tys base => ct9_isWord l D tys base x102.2 this (33336558869112179 : Int64)) (fun x hx => ob9_isWord hx) rfl s9_isWord w_1372 rfl ⟨Nat.le_of_ble_eq_true rfl, Nat.le_of_ble_eq_true rfl⟩ ⟨Nat.le_of_ble_eq_true rfl, Nat.le_of_ble_eq_true rfl⟩ (Nat.le_of_ble_eq_true rfl) dX9_wordHere_115) fun x115 => ?_
                    refine v_ifb_eq hc 126 dX9_wordHere_118 rfl ?_ ?_
                    · refine v_iconst (x := (-1 : Int32)) hc dX9_wordHere_126 zi_m1 ?_
                      exact v_iret hc hq rfl rfl (Nat.le_of_ble_eq_true rfl) (Nat.le_of_ble_eq_true rfl) rfl dX9_wordHere_127
                    · refine v_bipush (x := (9 : Int32)) hc dX9_wordHere_121 zb_9 ?_
                      refine v_goto hc 127 dX9_wordHere_123 rfl ?_
                      exact v_iret hc hq rfl rfl (Nat.le_of_ble_eq_true rfl) (Nat.le_of_ble_eq_true rfl) rfl dX9_wordHere_127
                  · refine v_bipush (x := (8 : Int32)) hc dX9_wordHere_108 zb_8 ?_
                    exact v_iret hc hq rfl rfl (Nat.le_of_ble_eq_true rfl) (Nat.le_of_ble_eq_true rfl) rfl dX9_wordHere_110
                · refine v_bipush (x := (7 : Int32)) hc dX9_wordHere_95 zb_7 ?_
                  exact v_iret hc hq rfl rfl (Nat.le_of_ble_eq_true rfl) (Nat.le_of_ble_eq_true rfl) rfl dX9_wordHere_97
              · refine v_bipush (x := (6 : Int32)) hc dX9_wordHere_82 zb_6 ?_
                exact v_iret hc hq rfl rfl (Nat.le_of_ble_eq_true rfl) (Nat.le_of_ble_eq_true rfl) rfl dX9_wordHere_84
            · refine v_iconst (x := (5 : Int32)) hc dX9_wordHere_70 zi_5 ?_
              exact v_iret hc hq rfl rfl (Nat.le_of_ble_eq_true rfl) (Nat.le_of_ble_eq_true rfl) rfl dX9_wordHere_71
          · refine v_iconst (x := (4 : Int32)) hc dX9_wordHere_58 zi_4 ?_
            exact v_iret hc hq rfl rfl (Nat.le_of_ble_eq_true rfl) (Nat.le_of_ble_eq_true rfl) rfl dX9_wordHere_59
        · refine v_iconst (x := (3 : Int32)) hc dX9_wordHere_46 zi_3 ?_
          exact v_iret hc hq rfl rfl (Nat.le_of_ble_eq_true rfl) (Nat.le_of_ble_eq_true rfl) rfl dX9_wordHere_47
      · refine v_iconst (x := (2 : Int32)) hc dX9_wordHere_34 zi_2 ?_
        exact v_iret hc hq rfl rfl (Nat.le_of_ble_eq_true rfl) (Nat.le_of_ble_eq_true rfl) rfl dX9_wordHere_35
    · refine v_iconst (x := (1 : Int32)) hc dX9_wordHere_22 zi_1 ?_
      exact v_iret hc hq rfl rfl (Nat.le_of_ble_eq_true rfl) (Nat.le_of_ble_eq_true rfl) rfl dX9_wordHere_23
  · refine v_iconst (x := (0 : Int32)) hc dX9_wordHere_10 zi_0 ?_
    exact v_iret hc hq rfl rfl (Nat.le_of_ble_eq_true rfl) (Nat.le_of_ble_eq_true rfl) rfl dX9_wordHere_11
theorem s9_wordHere : YV yX9_wordHere RX9 cX9_wordHere 1 (some .int) 0 := ⟨w_1430, w_1429, w_77, w_118, rfl, by decide +kernel, by decide +kernel, by decide +kernel⟩
def f9_value (h : AH) (this : Nat) : Option (Bool × AH) := (hObj 9 h this).bind fun _ => (f9_see h this).bind fun x1 => (fI 9 16 x1.2 this).bind fun x6 => (fI 9 16 x1.2 this).bind fun x12 => (f9_isDigit x1.2 this x12).bind fun x15 => (if x15 = true then (f9_number x1.2 this (0 : Int32) (99999 : Int32)).bind fun x25 => (if x25.1 = true then (f9_makes x25.2 this x6).bind fun x33 => (if x33.1 = true then (fI 9 18 x33.2 this).bind fun x44 => (f9_puts x33.2 this (0 : Int32) x44).bind fun x47 => some (true, x47) else some (false, x33.2)) else some (false, x25.2)) else (f9_wordHere x1.2 this).bind fun x53 => (if 0 ≤ x53.1 then (f9_makes x53.2 this x6).bind fun x70 => (if x70.1 = true then (f9_passWord x70.2 this).bind fun x79 => (f9_puts x79 this (1 : Int32) x53.1).bind fun x85 => some (true, x85) else some (false, x70.2)) else (f9_fails x53.2 this (0 : Int32) x6).bind fun x64 => some (x64.1, x64.2)))
theorem ob9_value {h : AH} {this : Nat} {x : Bool × AH} (e : f9_value h this = some x) : ∃ fs, hObj 9 h this = some fs := by
  unfold f9_value at e
  obtain ⟨fs, h1, -⟩ := bd e
  exact ⟨fs, h1⟩
set_option maxRecDepth 100000 in
theorem ct9_value (l : Launch) (D : va_G) (tys : Tys) (base : Nat) (h : AH) (this : Nat) : Ct l D tys base yX9_value cX9_value 3 (some .boolean) 3 66 0 0 [.ref this] h (wB) (f9_value h this) := by
  refine Ct.intro (own := RX9) (L := [(0, .ref this)]) rfl (by decide) rfl (Nat.le_of_ble_eq_true rfl) fun κ hc hr hq hi hL => ?_
  have hn : ∀ i, i < 3 → i < κ.2.2.2.2.1 := fun i q => hL ▸ q
  unfold f9_value
  refine v_obj ?_
  refine v_aload_n (i := 0) hc 0 rfl dX9_value_0 rfl ?_
  refine v_cwI hc (m_V' (As := []) (b := this) (rest := []) 0 hc hr (fun l D tys base => ct9_see l D tys base h this) (fun x hx => ob9_see hx) rfl s9_see w_1367 rfl ⟨Nat.le_of_ble_eq_true rfl, Nat.le_of_ble_eq_true rfl⟩ ⟨Nat.le_of_ble_eq_true rfl, Nat.le_of_ble_eq_true rfl⟩ (Nat.le_of_ble_eq_true rfl) dX9_value_1) fun x1 => ?_
  refine v_pop hc dX9_value_4 rfl ?_
  refine v_aload_n (i := 0) hc 0 rfl dX9_value_5 rfl ?_
  refine v_getV hc kX9 16 (by decide) w_1147 rfl dX9_value_6 (gI rfl fun x6 => ?_)
  refine v_istore_n (i := 1) (L' := [(1, .int x6), (0, .ref this)]) hc dX9_value_9 rfl (hn 1 (Nat.le_of_ble_eq_true rfl)) rfl ?_
  refine v_aload_n (i := 0) hc 1 rfl dX9_value_10 rfl ?_
  refine v_aload_n (i := 0) hc 1 rfl dX9_value_11 rfl ?_
  refine v_getV hc kX9 16 (by decide) w_1147 rfl dX9_value_12 (gI rfl fun x12 => ?_)
  refine v_cB hc (m_V' (As := [.int x12]) (b := this) (rest := []) 1 hc hr (fun l D tys base => ct9_isDigit l D tys base x1.2 this x12) (fun x hx => ob9_isDigit hx) rfl s9_isDigit w_1410 rfl ⟨Nat.le_of_ble_eq_true rfl, Nat.le_of_ble_eq_true rfl⟩ ⟨Nat.le_of_ble_eq_true rfl, Nat.le_of_ble_eq_true rfl⟩ (Nat.le_of_ble_eq_true rfl) dX9_value_15) fun x15 => ?_
  refine v_ifb_eq hc 52 dX9_value_18 rfl ?_ ?_
  · refine v_aload_n (i := 0) hc 1 rfl dX9_value_52 rfl ?_
    refine v_cwI hc (m_V' (As := []) (b := this) (rest := []) 0 hc hr (fun l D tys base => ct9_wordHere l D tys base x1.2 this) (fun x hx => ob9_wordHere hx) rfl s9_wordHere w_1427 rfl ⟨Nat.le_of_ble_eq_true rfl, Nat.le_of_ble_eq_true rfl⟩ ⟨Nat.le_of_ble_eq_true rfl, Nat.le_of_ble_eq_true rfl⟩ (Nat.le_of_ble_eq_true rfl) dX9_value_53) fun x53 => ?_
    refine v_istore_n (i := 2) (L' := [(2, .int x53.1), (1, .int x6), (0, .ref this)]) hc dX9_value_56 rfl (hn 2 (Nat.le_of_ble_eq_true rfl)) rfl ?_
    refine v_iload_n (i := 2) hc 0 rfl dX9_value_57 rfl ?_
    refine v_if_ge hc 68 dX9_value_58 rfl ?_ ?_
    · refine v_aload_n (i := 0) hc 2 rfl dX9_value_68 rfl ?_
      refine v_iload_n (i := 1) hc 1 rfl dX9_value_69 rfl ?_
      refine v_cwB hc (m_V' (As := [.int x6]) (b := this) (rest := []) 1 hc hr (fun l D tys base => ct9_makes l D tys base x53.2 this x6) (fun x hx => ob9_makes hx) rfl s9_makes w_1419 rfl ⟨Nat.le_of_ble_eq_true rfl, Nat.le_of_ble_eq_true rfl⟩ ⟨Nat.le_of_ble_eq_true rfl, Nat.le_of_ble_eq_true rfl⟩ (Nat.le_of_ble_eq_true rfl) dX9_value_70) fun x70 => ?_
      refine v_ifb_ne hc 78 dX9_value_73 rfl ?_ ?_
      · refine v_aload_n (i := 0) hc 2 rfl dX9_value_78 rfl ?_
        refine v_cV hc (m_V' (As := []) (b := this) (rest := []) 0 hc hr (fun l D tys base => ct9_passWord l D tys base x70.2 this) (fun x hx => ob9_passWord hx) rfl s9_passWord w_1394 rfl ⟨Nat.le_of_ble_eq_true rfl, Nat.le_of_ble_eq_true rfl⟩ ⟨Nat.le_of_ble_eq_true rfl, Nat.le_of_ble_eq_true rfl⟩ (Nat.le_of_ble_eq_true rfl) dX9_value_79) fun x79 => ?_
        refine v_aload_n (i := 0) hc 2 rfl dX9_value_82 rfl ?_
        refine v_iconst (x := (1 : Int32)) hc dX9_value_83 zi_1 ?_
        refine v_iload_n (i := 2) hc 0 rfl dX9_value_84 rfl ?_
        refine v_cV hc (m_V' (As := [.int (1 : Int32), .int x53.1]) (b := this) (rest := []) 2 hc hr (fun l D tys base => ct9_puts l D tys base x79 this (1 : Int32) x53.1) (fun x hx => ob9_puts hx) rfl s9_puts w_1423 rfl ⟨Nat.le_of_ble_eq_true rfl, Nat.le_of_ble_eq_true rfl⟩ ⟨Nat.le_of_ble_eq_true rfl, Nat.le_of_ble_eq_true rfl⟩ (Nat.le_of_ble_eq_true rfl) dX9_value_85) fun x85 => ?_
        refine v_iconst (x := (1 : Int32)) hc dX9_value_88 zi_1 ?_
        exact v_iret (v := bI true) hc hq rfl (nar_b true) (Nat.le_of_ble_eq_true rfl) (Nat.le_of_ble_eq_true rfl) rfl dX9_value_89
      · refine v_iconst (x := (0 : Int32)) hc dX9_value_76 zi_0 ?_
        exact v_iret (v := bI false) hc hq rfl (nar_b false) (Nat.le_of_ble_eq_true rfl) (Nat.le_of_ble_eq_true rfl) rfl dX9_value_77
    · refine v_aload_n (i := 0) hc 2 rfl dX9_value_61 rfl ?_
      refine v_iconst (x := (0 : Int32)) hc dX9_value_62 zi_0 ?_
      refine v_iload_n (i := 1) hc 1 rfl dX9_value_63 rfl ?_
      refine v_cwB hc (m_V' (As := [.int (0 : Int32), .int x6]) (b := this) (rest := []) 2 hc hr (fun l D tys base => ct9_fails l D tys base x53.2 this (0 : Int32) x6) (fun x hx => ob9_fails hx) rfl s9_fails w_1386 rfl ⟨Nat.le_of_ble_eq_true rfl, Nat.le_of_ble_eq_true rfl⟩ ⟨Nat.le_of_ble_eq_true rfl, Nat.le_of_ble_eq_true rfl⟩ (Nat.le_of_ble_eq_true rfl) dX9_value_64) fun x64 => ?_
      exact v_iret (v := bI x64.1) hc hq rfl (nar_b x64.1) (Nat.le_of_ble_eq_true rfl) (Nat.le_of_ble_eq_true rfl) rfl dX9_value_67
  · refine v_aload_n (i := 0) hc 1 rfl dX9_value_21 rfl ?_
    refine v_iconst (x := (0 : Int32)) hc dX9_value_22 zi_0 ?_
    refine v_ldc (x := (99999 : Int32)) hc w_1414 dX9_value_23 ?_
    refine v_cwB hc (m_V' (As := [.int (0 : Int32), .int (99999 : Int32)]) (b := this) (rest := []) 2 hc hr (fun l D tys base => ct9_number l D tys base x1.2 this (0 : Int32) (99999 : Int32)) (fun x hx => ob9_number hx) rfl s9_number w_1415 rfl ⟨Nat.le_of_ble_eq_true rfl, Nat.le_of_ble_eq_true rfl⟩ ⟨Nat.le_of_ble_eq_true rfl, Nat.le_of_ble_eq_true rfl⟩ (Nat.le_of_ble_eq_true rfl) dX9_value_25) fun x25 => ?_
    refine v_ifb_eq hc 39 dX9_value_28 rfl ?_ ?_
    · refine v_iconst (x := (0 : Int32)) hc dX9_value_39 zi_0 ?_
      exact v_iret (v := bI false) hc hq rfl (nar_b false) (Nat.le_of_ble_eq_true rfl) (Nat.le_of_ble_eq_true rfl) rfl dX9_value_40
    · refine v_aload_n (i := 0) hc 1 rfl dX9_value_31 rfl ?_
      refine v_iload_n (i := 1) hc 0 rfl dX9_value_32 rfl ?_
      refine v_cwB hc (m_V' (As := [.int x6]) (b := this) (rest := []) 1 hc hr (fun l D tys base => ct9_makes l D tys base x25.2 this x6) (fun x hx => ob9_makes hx) rfl s9_makes w_1419 rfl ⟨Nat.le_of_ble_eq_true rfl, Nat.le_of_ble_eq_true rfl⟩ ⟨Nat.le_of_ble_eq_true rfl, Nat.le_of_ble_eq_true rfl⟩ (Nat.le_of_ble_eq_true rfl) dX9_value_33) fun x33 => ?_
      refine v_ifb_ne hc 41 dX9_value_36 rfl ?_ ?_
      · refine v_aload_n (i := 0) hc 1 rfl dX9_value_41 rfl ?_
        refine v_iconst (x := (0 : Int32)) hc dX9_value_42 zi_0 ?_
        refine v_aload_n (i := 0) hc 1 rfl dX9_value_43 rfl ?_
        refine v_getV hc kX9 18 (by decide) w_1149 rfl dX9_value_44 (gI rfl fun x44 => ?_)
        refine v_cV hc (m_V' (As := [.int (0 : Int32), .int x44]) (b := this) (rest := []) 2 hc hr (fun l D tys base => ct9_puts l D tys base x33.2 this (0 : Int32) x44) (fun x hx => ob9_puts hx) rfl s9_puts w_1423 rfl ⟨Nat.le_of_ble_eq_true rfl, Nat.le_of_ble_eq_true rfl⟩ ⟨Nat.le_of_ble_eq_true rfl, Nat.le_of_ble_eq_true rfl⟩ (Nat.le_of_ble_eq_true rfl) dX9_value_47) fun x47 => ?_
        refine v_iconst (x := (1 : Int32)) hc dX9_value_50 zi_1 ?_
        exact v_iret (v := bI true) hc hq rfl (nar_b true) (Nat.le_of_ble_eq_true rfl) (Nat.le_of_ble_eq_true rfl) rfl dX9_value_51
      · refine v_iconst (x := (0 : Int32)) hc dX9_value_39 zi_0 ?_
        exact v_iret (v := bI false) hc hq rfl (nar_b false) (Nat.le_of_ble_eq_true rfl) (Nat.le_of_ble_eq_true rfl) rfl dX9_value_40
theorem s9_value : YV yX9_value RX9 cX9_value 3 (some .boolean) 0 := ⟨w_1409, w_1408, w_72, w_118, rfl, by decide +kernel, by decide +kernel, by decide +kernel⟩
def f9_term_9 (v0 : Nat) : Nat → AH → Option (Bool × AH)
  | 0, _ => none
  | n + 1, h => (f9_see h v0).bind fun x10 => (if x10.1 = (42 : Int32) then (fI 9 16 x10.2 v0).bind fun x20 => (fS 9 16 x10.2 v0 (.int (x20 + (1 : Int32)))).bind fun h25 => (f9_value h25 v0).bind fun x29 => (if x29.1 = true then (f9_puts x29.2 v0 (4 : Int32) (0 : Int32)).bind fun x40 => f9_term_9 v0 n x40 else some (false, x29.2)) else some (true, x10.2))
set_option maxRecDepth 100000 in
theorem vl9_term_9 {κ : Kx} (hc : CX κ RX9 cX9_term) (hr : RX κ ({ frames := 4, cells := 0, slots := 0, locals := 88 } : Room)) (hq : QX κ (some .boolean) 0 0) (hL : 1 = κ.2.2.2.2.1)  (v0 : Nat) : ∀ n (h : AH), V κ (wB) 0 0 9 [(0, .ref v0)] [] h (f9_term_9 v0 n h) := by
  have hn : ∀ i, i < 1 → i < κ.2.2.2.2.1 := fun i q => hL ▸ q
  intro n
  induction n with
  | zero => intros; exact v_none
  | succ n ih =>
    intro h
    rw [f9_term_9.eq_2]
    refine v_aload_n (i := 0) hc 0 rfl dX9_term_9 rfl ?_
    refine v_cwI hc (m_V' (As := []) (b := v0) (rest := []) 0 hc hr (fun l D tys base => ct9_see l D tys base h v0) (fun x hx => ob9_see hx) rfl s9_see w_1367 rfl ⟨Nat.le_of_ble_eq_true rfl, Nat.le_of_ble_eq_true rfl⟩ ⟨Nat.le_of_ble_eq_true rfl, Nat.le_of_ble_eq_true rfl⟩ (Nat.le_of_ble_eq_true rfl) dX9_term_10) fun x10 => ?_
    refine v_bipush (x := (42 : Int32)) hc dX9_term_13 zb_42 ?_
    refine v_icmp_ne hc 46 dX9_term_15 rfl ?_ ?_
    · refine v_iconst (x := (1 : Int32)) hc dX9_term_46 zi_1 ?_
      exact v_iret (v := bI true) hc hq rfl (nar_b true) (Nat.le_of_ble_eq_true rfl) (Nat.le_of_ble_eq_true rfl) rfl dX9_term_47
    · refine v_aload_n (i := 0) hc 0 rfl dX9_term_18 rfl ?_
      refine v_dup hc dX9_term_19 rfl ?_
      refine v_getV hc kX9 16 (by decide) w_1147 rfl dX9_term_20 (gI rfl fun x20 => ?_)
      refine v_iconst (x := (1 : Int32)) hc dX9_term_23 zi_1 ?_
      refine v_iadd hc dX9_term_24 ?_
      refine v_put hc kX9 16 (by decide) w_1147 rfl rfl dX9_term_25 ⟨rfl, rfl⟩ fun h25 => ?_
      refine v_aload_n (i := 0) hc 0 rfl dX9_term_28 rfl ?_
      refine v_cwB hc (m_V' (As := []) (b := v0) (rest := []) 0 hc hr (fun l D tys base => ct9_value l D tys base h25 v0) (fun x hx => ob9_value hx) rfl s9_value w_1406 rfl ⟨Nat.le_of_ble_eq_true rfl, Nat.le_of_ble_eq_true rfl⟩ ⟨Nat.le_of_ble_eq_true rfl, Nat.le_of_ble_eq_true rfl⟩ (Nat.le_of_ble_eq_true rfl) dX9_term_29) fun x29 => ?_
      refine v_ifb_ne hc 37 dX9_term_32 rfl ?_ ?_
      · refine v_aload_n (i := 0) hc 0 rfl dX9_term_37 rfl ?_
        refine v_iconst (x := (4 : Int32)) hc dX9_term_38 zi_4 ?_
        refine v_iconst (x := (0 : Int32)) hc dX9_term_39 zi_0 ?_
        refine v_cV hc (m_V' (As := [.int (4 : Int32), .int (0 : Int32)]) (b := v0) (rest := []) 2 hc hr (fun l D tys base => ct9_puts l D tys base x29.2 v0 (4 : Int32) (0 : Int32)) (fun x hx => ob9_puts hx) rfl s9_puts w_1423 rfl ⟨Nat.le_of_ble_eq_true rfl, Nat.le_of_ble_eq_true rfl⟩ ⟨Nat.le_of_ble_eq_true rfl, Nat.le_of_ble_eq_true rfl⟩ (Nat.le_of_ble_eq_true rfl) dX9_term_40) fun x40 => ?_
        refine v_goto hc 9 dX9_term_43 rfl ?_
        refine v_sub (L' := [(0, .ref v0)]) [0] rfl ?_
        exact ih x40
      · refine v_iconst (x := (0 : Int32)) hc dX9_term_35 zi_0 ?_
        exact v_iret (v := bI false) hc hq rfl (nar_b false) (Nat.le_of_ble_eq_true rfl) (Nat.le_of_ble_eq_true rfl) rfl dX9_term_36
def f9_term (h : AH) (this : Nat) : Option (Bool × AH) := (hObj 9 h this).bind fun _ => (f9_value h this).bind fun x1 => (if x1.1 = true then f9_term_9 this FU x1.2 else some (false, x1.2))
theorem ob9_term {h : AH} {this : Nat} {x : Bool × AH} (e : f9_term h this = some x) : ∃ fs, hObj 9 h this = some fs := by
  unfold f9_term at e
  obtain ⟨fs, h1, -⟩ := bd e
  exact ⟨fs, h1⟩
set_option maxRecDepth 100000 in
theorem ct9_term (l : Launch) (D : va_G) (tys : Tys) (base : Nat) (h : AH) (this : Nat) : Ct l D tys base yX9_term cX9_term 1 (some .boolean) 4 88 0 0 [.ref this] h (wB) (f9_term h this) := by
  refine Ct.intro (own := RX9) (L := [(0, .ref this)]) rfl (by decide) rfl (Nat.le_of_ble_eq_true rfl) fun κ hc hr hq hi hL => ?_
  have hn : ∀ i, i < 1 → i < κ.2.2.2.2.1 := fun i q => hL ▸ q
  unfold f9_term
  refine v_obj ?_
  refine v_aload_n (i := 0) hc 0 rfl dX9_term_0 rfl ?_
  refine v_cwB hc (m_V' (As := []) (b := this) (rest := []) 0 hc hr (fun l D tys base => ct9_value l D tys base h this) (fun x hx => ob9_value hx) rfl s9_value w_1406 rfl ⟨Nat.le_of_ble_eq_true rfl, Nat.le_of_ble_eq_true rfl⟩ ⟨Nat.le_of_ble_eq_true rfl, Nat.le_of_ble_eq_true rfl⟩ (Nat.le_of_ble_eq_true rfl) dX9_term_1) fun x1 => ?_
  refine v_ifb_ne hc 9 dX9_term_4 rfl ?_ ?_
  · refine v_sub (L' := [(0, .ref this)]) [0] rfl ?_
    exact vl9_term_9 hc hr hq hL this FU x1.2
  · refine v_iconst (x := (0 : Int32)) hc dX9_term_7 zi_0 ?_
    exact v_iret (v := bI false) hc hq rfl (nar_b false) (Nat.le_of_ble_eq_true rfl) (Nat.le_of_ble_eq_true rfl) rfl dX9_term_8
theorem s9_term : YV yX9_term RX9 cX9_term 1 (some .boolean) 0 := ⟨w_1405, w_1404, w_71, w_118, rfl, by decide +kernel, by decide +kernel, by decide +kernel⟩
def f9_sum_46 (k9 : AH → Option (Bool × AH)) (h : AH) (v0 : Nat) (s0 : Int32) : Option (Bool × AH) := (fI 9 16 h v0).bind fun x49 => (fS 9 16 h v0 (.int (x49 + (1 : Int32)))).bind fun h54 => (f9_term h54 v0).bind fun x58 => (if x58.1 = true then (f9_puts x58.2 v0 s0 (0 : Int32)).bind fun x69 => k9 x69 else some (false, x58.2))
set_option maxRecDepth 100000 in
theorem vl9_sum_46 {κ : Kx} (hc : CX κ RX9 cX9_sum) (hr : RX κ ({ frames := 5, cells := 0, slots := 0, locals := 108 } : Room)) (hq : QX κ (some .boolean) 0 0) (hL : 2 = κ.2.2.2.2.1) (k9 : AH → Option (Bool × AH)) (h : AH) (v0 : Nat) (hk9 : ∀ (h : AH), V κ (wB) 0 0 9 [(0, .ref v0)] [] h (k9 h)) (s0 : Int32) : V κ (wB) 0 0 46 [(0, .ref v0)] [.int s0] h (f9_sum_46 k9 h v0 s0) := by
  have hn : ∀ i, i < 2 → i < κ.2.2.2.2.1 := fun i q => hL ▸ q
  unfold f9_sum_46
  refine v_istore_n (i := 1) (L' := [(1, .int s0), (0, .ref v0)]) hc dX9_sum_46 rfl (hn 1 (Nat.le_of_ble_eq_true rfl)) rfl ?_
  refine v_aload_n (i := 0) hc 1 rfl dX9_sum_47 rfl ?_
  refine v_dup hc dX9_sum_48 rfl ?_
  refine v_getV hc kX9 16 (by decide) w_1147 rfl dX9_sum_49 (gI rfl fun x49 => ?_)
  refine v_iconst (x := (1 : Int32)) hc dX9_sum_52 zi_1 ?_
  refine v_iadd hc dX9_sum_53 ?_
  refine v_put hc kX9 16 (by decide) w_1147 rfl rfl dX9_sum_54 ⟨rfl, rfl⟩ fun h54 => ?_
  refine v_aload_n (i := 0) hc 1 rfl dX9_sum_57 rfl ?_
  refine v_cwB hc (m_V' (As := []) (b := v0) (rest := []) 0 hc hr (fun l D tys base => ct9_term l D tys base h54 v0) (fun x hx => ob9_term hx) rfl s9_term w_1402 rfl ⟨Nat.le_of_ble_eq_true rfl, Nat.le_of_ble_eq_true rfl⟩ ⟨Nat.le_of_ble_eq_true rfl, Nat.le_of_ble_eq_true rfl⟩ (Nat.le_of_ble_eq_true rfl) dX9_sum_58) fun x58 => ?_
  refine v_ifb_ne hc 66 dX9_sum_61 rfl ?_ ?_
  · refine v_aload_n (i := 0) hc 1 rfl dX9_sum_66 rfl ?_
    refine v_iload_n (i := 1) hc 0 rfl dX9_sum_67 rfl ?_
    refine v_iconst (x := (0 : Int32)) hc dX9_sum_68 zi_0 ?_
    refine v_cV hc (m_V' (As := [.int s0, .int (0 : Int32)]) (b := v0) (rest := []) 2 hc hr (fun l D tys base => ct9_puts l D tys base x58.2 v0 s0 (0 : Int32)) (fun x hx => ob9_puts hx) rfl s9_puts w_1423 rfl ⟨Nat.le_of_ble_eq_true rfl, Nat.le_of_ble_eq_true rfl⟩ ⟨Nat.le_of_ble_eq_true rfl, Nat.le_of_ble_eq_true rfl⟩ (Nat.le_of_ble_eq_true rfl) dX9_sum_69) fun x69 => ?_
    refine v_goto hc 9 dX9_sum_72 rfl ?_
    refine v_sub (L' := [(0, .ref v0)]) [1] rfl ?_
    exact hk9 x69
  · refine v_iconst (x := (0 : Int32)) hc dX9_sum_64 zi_0 ?_
    exact v_iret (v := bI false) hc hq rfl (nar_b false) (Nat.le_of_ble_eq_true rfl) (Nat.le_of_ble_eq_true rfl) rfl dX9_sum_65
def f9_sum_9 (v0 : Nat) : Nat → AH → Option (Bool × AH)
  | 0, _ => none
  | n + 1, h => (f9_see h v0).bind fun x10 => (if x10.1 = (43 : Int32) then (fR 9 1 x10.2 v0).bind fun x28 => (fI 9 16 x10.2 v0).bind fun x32 => (aI 2 x10.2 x28 x32).bind fun x35 => (if x35 = (43 : Int32) then f9_sum_46 (fun h => f9_sum_9 v0 n h) x10.2 v0 (2 : Int32) else f9_sum_46 (fun h => f9_sum_9 v0 n h) x10.2 v0 (3 : Int32)) else (f9_see x10.2 v0).bind fun x19 => (if x19.1 = (45 : Int32) then (fR 9 1 x19.2 v0).bind fun x28 => (fI 9 16 x19.2 v0).bind fun x32 => (aI 2 x19.2 x28 x32).bind fun x35 => (if x35 = (43 : Int32) then f9_sum_46 (fun h => f9_sum_9 v0 n h) x19.2 v0 (2 : Int32) else f9_sum_46 (fun h => f9_sum_9 v0 n h) x19.2 v0 (3 : Int32)) else some (true, x19.2)))
set_option maxRecDepth 100000 in
theorem vl9_sum_9 {κ : Kx} (hc : CX κ RX9 cX9_sum) (hr : RX κ ({ frames := 5, cells := 0, slots := 0, locals := 108 } : Room)) (hq : QX κ (some .boolean) 0 0) (hL : 2 = κ.2.2.2.2.1)  (v0 : Nat) : ∀ n (h : AH), V κ (wB) 0 0 9 [(0, .ref v0)] [] h (f9_sum_9 v0 n h) := by
  have hn : ∀ i, i < 2 → i < κ.2.2.2.2.1 := fun i q => hL ▸ q
  intro n
  induction n with
  | zero => intros; exact v_none
  | succ n ih =>
    intro h
    rw [f9_sum_9.eq_2]
    refine v_aload_n (i := 0) hc 0 rfl dX9_sum_9 rfl ?_
    refine v_cwI hc (m_V' (As := []) (b := v0) (rest := []) 0 hc hr (fun l D tys base => ct9_see l D tys base h v0) (fun x hx => ob9_see hx) rfl s9_see w_1367 rfl ⟨Nat.le_of_ble_eq_true rfl, Nat.le_of_ble_eq_true rfl⟩ ⟨Nat.le_of_ble_eq_true rfl, Nat.le_of_ble_eq_true rfl⟩ (Nat.le_of_ble_eq_true rfl) dX9_sum_10) fun x10 => ?_
    refine v_bipush (x := (43 : Int32)) hc dX9_sum_13 zb_43 ?_
    refine v_icmp_eq hc 27 dX9_sum_15 rfl ?_ ?_
    · refine v_aload_n (i := 0) hc 0 rfl dX9_sum_27 rfl ?_
      refine v_getV hc kX9 1 (by decide) w_1132 rfl dX9_sum_28 (gR rfl fun x28 => ?_)
      refine v_aload_n (i := 0) hc 0 rfl dX9_sum_31 rfl ?_
      refine v_getV hc kX9 16 (by decide) w_1147 rfl dX9_sum_32 (gI rfl fun x32 => ?_)
      refine v_bald hc dX9_sum_35 fun x35 => ?_
      refine v_bipush (x := (43 : Int32)) hc dX9_sum_36 zb_43 ?_
      refine v_icmp_ne hc 45 dX9_sum_38 rfl ?_ ?_
      · refine v_iconst (x := (3 : Int32)) hc dX9_sum_45 zi_3 ?_
        refine v_sub (L' := [(0, .ref v0)]) [0] rfl ?_
        exact vl9_sum_46 hc hr hq hL (fun h => f9_sum_9 v0 n h) x10.2 v0 ih (3 : Int32)
      · refine v_iconst (x := (2 : Int32)) hc dX9_sum_41 zi_2 ?_
        refine v_goto hc 46 dX9_sum_42 rfl ?_
        refine v_sub (L' := [(0, .ref v0)]) [0] rfl ?_
        exact vl9_sum_46 hc hr hq hL (fun h => f9_sum_9 v0 n h) x10.2 v0 ih (2 : Int32)
    · refine v_aload_n (i := 0) hc 0 rfl dX9_sum_18 rfl ?_
      refine v_cwI hc (m_V' (As := []) (b := v0) (rest := []) 0 hc hr (fun l D tys base => ct9_see l D tys base x10.2 v0) (fun x hx => ob9_see hx) rfl s9_see w_1367 rfl ⟨Nat.le_of_ble_eq_true rfl, Nat.le_of_ble_eq_true rfl⟩ ⟨Nat.le_of_ble_eq_true rfl, Nat.le_of_ble_eq_true rfl⟩ (Nat.le_of_ble_eq_true rfl) dX9_sum_19) fun x19 => ?_
      refine v_bipush (x := (45 : Int32)) hc dX9_sum_22 zb_45 ?_
      refine v_icmp_ne hc 75 dX9_sum_24 rfl ?_ ?_
      · refine v_iconst (x := (1 : Int32)) hc dX9_sum_75 zi_1 ?_
        exact v_iret (v := bI true) hc hq rfl (nar_b true) (Nat.le_of_ble_eq_true rfl) (Nat.le_of_ble_eq_true rfl) rfl dX9_sum_76
      · refine v_aload_n (i := 0) hc 0 rfl dX9_sum_27 rfl ?_
        refine v_getV hc kX9 1 (by decide) w_1132 rfl dX9_sum_28 (gR rfl fun x28 => ?_)
        refine v_aload_n (i := 0) hc 0 rfl dX9_sum_31 rfl ?_
        refine v_getV hc kX9 16 (by decide) w_1147 rfl dX9_sum_32 (gI rfl fun x32 => ?_)
        refine v_bald hc dX9_sum_35 fun x35 => ?_
        refine v_bipush (x := (43 : Int32)) hc dX9_sum_36 zb_43 ?_
        refine v_icmp_ne hc 45 dX9_sum_38 rfl ?_ ?_
        · refine v_iconst (x := (3 : Int32)) hc dX9_sum_45 zi_3 ?_
          refine v_sub (L' := [(0, .ref v0)]) [0] rfl ?_
          exact vl9_sum_46 hc hr hq hL (fun h => f9_sum_9 v0 n h) x19.2 v0 ih (3 : Int32)
        · refine v_iconst (x := (2 : Int32)) hc dX9_sum_41 zi_2 ?_
          refine v_goto hc 46 dX9_sum_42 rfl ?_
          refine v_sub (L' := [(0, .ref v0)]) [0] rfl ?_
          exact vl9_sum_46 hc hr hq hL (fun h => f9_sum_9 v0 n h) x19.2 v0 ih (2 : Int32)
def f9_sum (h : AH) (this : Nat) : Option (Bool × AH) := (hObj 9 h this).bind fun _ => (f9_term h this).bind fun x1 => (if x1.1 = true then f9_sum_9 this FU x1.2 else some (false, x1.2))
theorem ob9_sum {h : AH} {this : Nat} {x : Bool × AH} (e : f9_sum h this = some x) : ∃ fs, hObj 9 h this = some fs := by
  unfold f9_sum at e
  obtain ⟨fs, h1, -⟩ := bd e
  exact ⟨fs, h1⟩
set_option maxRecDepth 100000 in
theorem ct9_sum (l : Launch) (D : va_G) (tys : Tys) (base : Nat) (h : AH) (this : Nat) : Ct l D tys base yX9_sum cX9_sum 2 (some .boolean) 5 108 0 0 [.ref this] h (wB) (f9_sum h this) := by
  refine Ct.intro (own := RX9) (L := [(0, .ref this)]) rfl (by decide) rfl (Nat.le_of_ble_eq_true rfl) fun κ hc hr hq hi hL => ?_
  have hn : ∀ i, i < 2 → i < κ.2.2.2.2.1 := fun i q => hL ▸ q
  unfold f9_sum
  refine v_obj ?_
  refine v_aload_n (i := 0) hc 0 rfl dX9_sum_0 rfl ?_
  refine v_cwB hc (m_V' (As := []) (b := this) (rest := []) 0 hc hr (fun l D tys base => ct9_term l D tys base h this) (fun x hx => ob9_term hx) rfl s9_term w_1402 rfl ⟨Nat.le_of_ble_eq_true rfl, Nat.le_of_ble_eq_true rfl⟩ ⟨Nat.le_of_ble_eq_true rfl, Nat.le_of_ble_eq_true rfl⟩ (Nat.le_of_ble_eq_true rfl) dX9_sum_1) fun x1 => ?_
  refine v_ifb_ne hc 9 dX9_sum_4 rfl ?_ ?_
  · refine v_sub (L' := [(0, .ref this)]) [0] rfl ?_
    exact vl9_sum_9 hc hr hq hL this FU x1.2
  · refine v_iconst (x := (0 : Int32)) hc dX9_sum_7 zi_0 ?_
    exact v_iret (v := bI false) hc hq rfl (nar_b false) (Nat.le_of_ble_eq_true rfl) (Nat.le_of_ble_eq_true rfl) rfl dX9_sum_8
theorem s9_sum : YV yX9_sum RX9 cX9_sum 2 (some .boolean) 0 := ⟨w_1401, w_1400, w_70, w_118, rfl, by decide +kernel, by decide +kernel, by decide +kernel⟩
def f9_takesWord (h : AH) (this : Nat) (p0 : Int64) : Option (Bool × AH) := (hObj 9 h this).bind fun _ => (f9_isWord h this p0).bind fun x2 => (if x2.1 = true then (f9_passWord x2.2 this).bind fun x11 => some (true, x11) else some (false, x2.2))
theorem ob9_takesWord {h : AH} {this : Nat} {p0 : Int64} {x : Bool × AH} (e : f9_takesWord h this p0 = some x) : ∃ fs, hObj 9 h this = some fs := by
  unfold f9_takesWord at e
  obtain ⟨fs, h1, -⟩ := bd e
  exact ⟨fs, h1⟩
set_option maxRecDepth 100000 in
theorem ct9_takesWord (l : Launch) (D : va_G) (tys : Tys) (base : Nat) (h : AH) (this : Nat) (p0 : Int64) : Ct l D tys base yX9_takesWord cX9_takesWord 3 (some .boolean) 2 46 0 0 [.ref this, .long p0] h (wB) (f9_takesWord h this p0) := by
  refine Ct.intro (own := RX9) (L := [(0, .ref this), (1, .long p0)]) rfl (by decide) rfl (Nat.le_of_ble_eq_true rfl) fun κ hc hr hq hi hL => ?_
  have hn : ∀ i, i < 3 → i < κ.2.2.2.2.1 := fun i q => hL ▸ q
  unfold f9_takesWord
  refine v_obj ?_
  refine v_aload_n (i := 0) hc 0 rfl dX9_takesWord_0 rfl ?_
  refine v_lload_n (i := 1) hc 1 rfl dX9_takesWord_1 rfl ?_
  refine v_cwB hc (m_V' (As := [.long p0]) (b := this) (rest := []) 1 hc hr (fun l D tys base => ct9_isWord l D tys base h this p0) (fun x hx => ob9_isWord hx) rfl s9_isWord w_1372 rfl ⟨Nat.le_of_ble_eq_true rfl, Nat.le_of_ble_eq_true rfl⟩ ⟨Nat.le_of_ble_eq_true rfl, Nat.le_of_ble_eq_true rfl⟩ (Nat.le_of_ble_eq_true rfl) dX9_takesWord_2) fun x2 => ?_
  refine v_ifb_ne hc 10 dX9_takesWord_5 rfl ?_ ?_
  · refine v_aload_n (i := 0) hc 0 rfl dX9_takesWord_10 rfl ?_
    refine v_cV hc (m_V' (As := []) (b := this) (rest := []) 0 hc hr (fun l D tys base => ct9_passWord l D tys base x2.2 this) (fun x hx => ob9_passWord hx) rfl s9_passWord w_1394 rfl ⟨Nat.le_of_ble_eq_true rfl, Nat.le_of_ble_eq_true rfl⟩ ⟨Nat.le_of_ble_eq_true rfl, Nat.le_of_ble_eq_true rfl⟩ (Nat.le_of_ble_eq_true rfl) dX9_takesWord_11) fun x11 => ?_
    refine v_iconst (x := (1 : Int32)) hc dX9_takesWord_14 zi_1 ?_
    exact v_iret (v := bI true) hc hq rfl (nar_b true) (Nat.le_of_ble_eq_true rfl) (Nat.le_of_ble_eq_true rfl) rfl dX9_takesWord_15
  · refine v_iconst (x := (0 : Int32)) hc dX9_takesWord_8 zi_0 ?_
    exact v_iret (v := bI false) hc hq rfl (nar_b false) (Nat.le_of_ble_eq_true rfl) (Nat.le_of_ble_eq_true rfl) rfl dX9_takesWord_9
theorem s9_takesWord : YV yX9_takesWord RX9 cX9_takesWord 3 (some .boolean) 1 := ⟨w_1445, w_1444, w_78, w_118, rfl, by decide +kernel, by decide +kernel, by decide +kernel⟩
def f9_opens (h : AH) (this : Nat) (p0 : Int32) : Option (Bool × AH) := (hObj 9 h this).bind fun _ => (fI 9 21 h this).bind fun x1 => (if x1 = (10 : Int32) then (fI 9 16 h this).bind fun x12 => (f9_fails h this (2 : Int32) x12).bind fun x15 => some (x15.1, x15.2) else (fI 9 21 h this).bind fun x21 => (fS 9 21 h this (.int (x21 + (1 : Int32)))).bind fun h26 => (fR 9 23 h26 this).bind fun x30 => (fI 9 24 h26 this).bind fun x34 => (sI 0 h26 x30 x34 p0).bind fun h38 => (fI 9 24 h38 this).bind fun x41 => (fS 9 24 h38 this (.int (x41 + (1 : Int32)))).bind fun h46 => some (true, h46))
theorem ob9_opens {h : AH} {this : Nat} {p0 : Int32} {x : Bool × AH} (e : f9_opens h this p0 = some x) : ∃ fs, hObj 9 h this = some fs := by
  unfold f9_opens at e
  obtain ⟨fs, h1, -⟩ := bd e
  exact ⟨fs, h1⟩
set_option maxRecDepth 100000 in
theorem ct9_opens (l : Launch) (D : va_G) (tys : Tys) (base : Nat) (h : AH) (this : Nat) (p0 : Int32) : Ct l D tys base yX9_opens cX9_opens 2 (some .boolean) 1 22 0 0 [.ref this, .int p0] h (wB) (f9_opens h this p0) := by
  refine Ct.intro (own := RX9) (L := [(0, .ref this), (1, .int p0)]) rfl (by decide) rfl (Nat.le_of_ble_eq_true rfl) fun κ hc hr hq hi hL => ?_
  have hn : ∀ i, i < 2 → i < κ.2.2.2.2.1 := fun i q => hL ▸ q
  unfold f9_opens
  refine v_obj ?_
  refine v_aload_n (i := 0) hc 0 rfl dX9_opens_0 rfl ?_
  refine v_getV hc kX9 21 (by decide) w_1152 rfl dX9_opens_1 (gI rfl fun x1 => ?_)
  refine v_bipush (x := (10 : Int32)) hc dX9_opens_4 zb_10 ?_
  refine v_icmp_ne hc 19 dX9_opens_6 rfl ?_ ?_
  · refine v_aload_n (i := 0) hc 0 rfl dX9_opens_19 rfl ?_
    refine v_dup hc dX9_opens_20 rfl ?_
    refine v_getV hc kX9 21 (by decide) w_1152 rfl dX9_opens_21 (gI rfl fun x21 => ?_)
    refine v_iconst (x := (1 : Int32)) hc dX9_opens_24 zi_1 ?_
    refine v_iadd hc dX9_opens_25 ?_
    refine v_put hc kX9 21 (by decide) w_1152 rfl rfl dX9_opens_26 ⟨rfl, rfl⟩ fun h26 => ?_
    refine v_aload_n (i := 0) hc 0 rfl dX9_opens_29 rfl ?_
    refine v_getV hc kX9 23 (by decide) w_1154 rfl dX9_opens_30 (gR rfl fun x30 => ?_)
    refine v_aload_n (i := 0) hc 0 rfl dX9_opens_33 rfl ?_
    refine v_getV hc kX9 24 (by decide) w_1155 rfl dX9_opens_34 (gI rfl fun x34 => ?_)
    refine v_iload_n (i := 1) hc 1 rfl dX9_opens_37 rfl ?_
    refine v_iast hc dX9_opens_38 fun h38 => ?_
    refine v_aload_n (i := 0) hc 0 rfl dX9_opens_39 rfl ?_
    refine v_dup hc dX9_opens_40 rfl ?_
    refine v_getV hc kX9 24 (by decide) w_1155 rfl dX9_opens_41 (gI rfl fun x41 => ?_)
    refine v_iconst (x := (1 : Int32)) hc dX9_opens_44 zi_1 ?_
    refine v_iadd hc dX9_opens_45 ?_
    refine v_put hc kX9 24 (by decide) w_1155 rfl rfl dX9_opens_46 ⟨rfl, rfl⟩ fun h46 => ?_
    refine v_iconst (x := (1 : Int32)) hc dX9_opens_49 zi_1 ?_
    exact v_iret (v := bI true) hc hq rfl (nar_b true) (Nat.le_of_ble_eq_true rfl) (Nat.le_of_ble_eq_true rfl) rfl dX9_opens_50
  · refine v_aload_n (i := 0) hc 0 rfl dX9_opens_9 rfl ?_
    refine v_iconst (x := (2 : Int32)) hc dX9_opens_10 zi_2 ?_
    refine v_aload_n (i := 0) hc 0 rfl dX9_opens_11 rfl ?_
    refine v_getV hc kX9 16 (by decide) w_1147 rfl dX9_opens_12 (gI rfl fun x12 => ?_)
    refine v_cwB hc (m_V' (As := [.int (2 : Int32), .int x12]) (b := this) (rest := []) 2 hc hr (fun l D tys base => ct9_fails l D tys base h this (2 : Int32) x12) (fun x hx => ob9_fails hx) rfl s9_fails w_1386 rfl ⟨Nat.le_of_ble_eq_true rfl, Nat.le_of_ble_eq_true rfl⟩ ⟨Nat.le_of_ble_eq_true rfl, Nat.le_of_ble_eq_true rfl⟩ (Nat.le_of_ble_eq_true rfl) dX9_opens_15) fun x15 => ?_
    exact v_iret (v := bI x15.1) hc hq rfl (nar_b x15.1) (Nat.le_of_ble_eq_true rfl) (Nat.le_of_ble_eq_true rfl) rfl dX9_opens_18
theorem s9_opens : YV yX9_opens RX9 cX9_opens 2 (some .boolean) 1 := ⟨w_1458, w_1457, w_81, w_118, rfl, by decide +kernel, by decide +kernel, by decide +kernel⟩
def f9_compare_105 (h : AH) (v0 : Nat) (v1 : Int32) (v2 : Int32) (v3 : Bool) : Option (Bool × AH) := (f9_makes h v0 v2).bind fun x107 => (if x107.1 = true then (if v1 = (60 : Int32) then (if v3 = true then (f9_sum x107.2 v0).bind fun x155 => (if x155.1 = true then (f9_puts x155.2 v0 ((5 : Int32) + (1 : Int32)) (0 : Int32)).bind fun x169 => some (true, x169) else some (false, x155.2)) else (f9_sum x107.2 v0).bind fun x155 => (if x155.1 = true then (f9_puts x155.2 v0 ((5 : Int32) + (0 : Int32)) (0 : Int32)).bind fun x169 => some (true, x169) else some (false, x155.2))) else (if v1 = (61 : Int32) then (f9_sum x107.2 v0).bind fun x155 => (if x155.1 = true then (f9_puts x155.2 v0 ((5 : Int32) + (2 : Int32)) (0 : Int32)).bind fun x169 => some (true, x169) else some (false, x155.2)) else (if v3 = true then (f9_sum x107.2 v0).bind fun x155 => (if x155.1 = true then (f9_puts x155.2 v0 ((5 : Int32) + (3 : Int32)) (0 : Int32)).bind fun x169 => some (true, x169) else some (false, x155.2)) else (f9_sum x107.2 v0).bind fun x155 => (if x155.1 = true then (f9_puts x155.2 v0 ((5 : Int32) + (4 : Int32)) (0 : Int32)).bind fun x169 => some (true, x169) else some (false, x155.2))))) else some (false, x107.2))
set_option maxRecDepth 100000 in
theorem vl9_compare_105 {κ : Kx} (hc : CX κ RX9 cX9_compare) (hr : RX κ ({ frames := 6, cells := 0, slots := 0, locals := 129 } : Room)) (hq : QX κ (some .boolean) 0 0) (hL : 5 = κ.2.2.2.2.1) (h : AH) (v0 : Nat) (v1 : Int32) (v2 : Int32) (v3 : Bool) : V κ (wB) 0 0 105 [(0, .ref v0), (1, .int v1), (2, .int v2), (3, .int (bI v3))] [] h (f9_compare_105 h v0 v1 v2 v3) := by
  have hn : ∀ i, i < 5 → i < κ.2.2.2.2.1 := fun i q => hL ▸ q
  unfold f9_compare_105
  refine v_aload_n (i := 0) hc 0 rfl dX9_compare_105 rfl ?_
  refine v_iload_n (i := 2) hc 2 rfl dX9_compare_106 rfl ?_
  refine v_cwB hc (m_V' (As := [.int v2]) (b := v0) (rest := []) 1 hc hr (fun l D tys base => ct9_makes l D tys base h v0 v2) (fun x hx => ob9_makes hx) rfl s9_makes w_1419 rfl ⟨Nat.le_of_ble_eq_true rfl, Nat.le_of_ble_eq_true rfl⟩ ⟨Nat.le_of_ble_eq_true rfl, Nat.le_of_ble_eq_true rfl⟩ (Nat.le_of_ble_eq_true rfl) dX9_compare_107) fun x107 => ?_
  refine v_ifb_ne hc 115 dX9_compare_110 rfl ?_ ?_
  · refine v_iload_n (i := 1) hc 1 rfl dX9_compare_115 rfl ?_
    refine v_bipush (x := (60 : Int32)) hc dX9_compare_116 zb_60 ?_
    refine v_icmp_ne hc 133 dX9_compare_118 rfl ?_ ?_
    · refine v_iload_n (i := 1) hc 1 rfl dX9_compare_133 rfl ?_
      refine v_bipush (x := (61 : Int32)) hc dX9_compare_134 zb_61 ?_
      refine v_icmp_ne hc 143 dX9_compare_136 rfl ?_ ?_
      · refine v_iload_n (i := 3) hc 3 rfl dX9_compare_143 rfl ?_
        refine v_ifb_eq hc 151 dX9_compare_144 rfl ?_ ?_
        · refine v_iconst (x := (4 : Int32)) hc dX9_compare_151 zi_4 ?_
          refine v_istore (i := 4) (L' := [(4, .int (4 : Int32)), (0, .ref v0), (1, .int v1), (2, .int v2), (3, .int (bI v3))]) hc dX9_compare_152 (hn 4 (Nat.le_of_ble_eq_true rfl)) rfl ?_
          refine v_aload_n (i := 0) hc 1 rfl dX9_compare_154 rfl ?_
          refine v_cwB hc (m_V' (As := []) (b := v0) (rest := []) 0 hc hr (fun l D tys base => ct9_sum l D tys base x107.2 v0) (fun x hx => ob9_sum hx) rfl s9_sum w_1398 rfl ⟨Nat.le_of_ble_eq_true rfl, Nat.le_of_ble_eq_true rfl⟩ ⟨Nat.le_of_ble_eq_true rfl, Nat.le_of_ble_eq_true rfl⟩ (Nat.le_of_ble_eq_true rfl) dX9_compare_155) fun x155 => ?_
          refine v_ifb_ne hc 163 dX9_compare_158 rfl ?_ ?_
          · refine v_aload_n (i := 0) hc 1 rfl dX9_compare_163 rfl ?_
            refine v_iconst (x := (5 : Int32)) hc dX9_compare_164 zi_5 ?_
            refine v_iload (i := 4) hc 0 rfl dX9_compare_165 ?_
            refine v_iadd hc dX9_compare_167 ?_
            refine v_iconst (x := (0 : Int32)) hc dX9_compare_168 zi_0 ?_
            refine v_cV hc (m_V' (As := [.int ((5 : Int32) + (4 : Int32)), .int (0 : Int32)]) (b := v0) (rest := []) 2 hc hr (fun l D tys base => ct9_puts l D tys base x155.2 v0 ((5 : Int32) + (4 : Int32)) (0 : Int32)) (fun x hx => ob9_puts hx) rfl s9_puts w_1423 rfl ⟨Nat.le_of_ble_eq_true rfl, Nat.le_of_ble_eq_true rfl⟩ ⟨Nat.le_of_ble_eq_true rfl, Nat.le_of_ble_eq_true rfl⟩ (Nat.le_of_ble_eq_true rfl) dX9_compare_169) fun x169 => ?_
            refine v_iconst (x := (1 : Int32)) hc dX9_compare_172 zi_1 ?_
            exact v_iret (v := bI true) hc hq rfl (nar_b true) (Nat.le_of_ble_eq_true rfl) (Nat.le_of_ble_eq_true rfl) rfl dX9_compare_173
          · refine v_iconst (x := (0 : Int32)) hc dX9_compare_161 zi_0 ?_
            exact v_iret (v := bI false) hc hq rfl (nar_b false) (Nat.le_of_ble_eq_true rfl) (Nat.le_of_ble_eq_true rfl) rfl dX9_compare_162
        · refine v_iconst (x := (3 : Int32)) hc dX9_compare_147 zi_3 ?_
          refine v_goto hc 152 dX9_compare_148 rfl ?_
          refine v_istore (i := 4) (L' := [(4, .int (3 : Int32)), (0, .ref v0), (1, .int v1), (2, .int v2), (3, .int (bI v3))]) hc dX9_compare_152 (hn 4 (Nat.le_of_ble_eq_true rfl)) rfl ?_
          refine v_aload_n (i := 0) hc 1 rfl dX9_compare_154 rfl ?_
          refine v_cwB hc (m_V' (As := []) (b := v0) (rest := []) 0 hc hr (fun l D tys base => ct9_sum l D tys base x107.2 v0) (fun x hx => ob9_sum hx) rfl s9_sum w_1398 rfl ⟨Nat.le_of_ble_eq_true rfl, Nat.le_of_ble_eq_true rfl⟩ ⟨Nat.le_of_ble_eq_true rfl, Nat.le_of_ble_eq_true rfl⟩ (Nat.le_of_ble_eq_true rfl) dX9_compare_155) fun x155 => ?_
          refine v_ifb_ne hc 163 dX9_compare_158 rfl ?_ ?_
          · refine v_aload_n (i := 0) hc 1 rfl dX9_compare_163 rfl ?_
            refine v_iconst (x := (5 : Int32)) hc dX9_compare_164 zi_5 ?_
            refine v_iload (i := 4) hc 0 rfl dX9_compare_165 ?_
            refine v_iadd hc dX9_compare_167 ?_
            refine v_iconst (x := (0 : Int32)) hc dX9_compare_168 zi_0 ?_
            refine v_cV hc (m_V' (As := [.int ((5 : Int32) + (3 : Int32)), .int (0 : Int32)]) (b := v0) (rest := []) 2 hc hr (fun l D tys base => ct9_puts l D tys base x155.2 v0 ((5 : Int32) + (3 : Int32)) (0 : Int32)) (fun x hx => ob9_puts hx) rfl s9_puts w_1423 rfl ⟨Nat.le_of_ble_eq_true rfl, Nat.le_of_ble_eq_true rfl⟩ ⟨Nat.le_of_ble_eq_true rfl, Nat.le_of_ble_eq_true rfl⟩ (Nat.le_of_ble_eq_true rfl) dX9_compare_169) fun x169 => ?_
            refine v_iconst (x := (1 : Int32)) hc dX9_compare_172 zi_1 ?_
            exact v_iret (v := bI true) hc hq rfl (nar_b true) (Nat.le_of_ble_eq_true rfl) (Nat.le_of_ble_eq_true rfl) rfl dX9_compare_173
          · refine v_iconst (x := (0 : Int32)) hc dX9_compare_161 zi_0 ?_
            exact v_iret (v := bI false) hc hq rfl (nar_b false) (Nat.le_of_ble_eq_true rfl) (Nat.le_of_ble_eq_true rfl) rfl dX9_compare_162
      · refine v_iconst (x := (2 : Int32)) hc dX9_compare_139 zi_2 ?_
        refine v_goto hc 152 dX9_compare_140 rfl ?_
        refine v_istore (i := 4) (L' := [(4, .int (2 : Int32)), (0, .ref v0), (1, .int v1), (2, .int v2), (3, .int (bI v3))]) hc dX9_compare_152 (hn 4 (Nat.le_of_ble_eq_true rfl)) rfl ?_
        refine v_aload_n (i := 0) hc 1 rfl dX9_compare_154 rfl ?_
        refine v_cwB hc (m_V' (As := []) (b := v0) (rest := []) 0 hc hr (fun l D tys base => ct9_sum l D tys base x107.2 v0) (fun x hx => ob9_sum hx) rfl s9_sum w_1398 rfl ⟨Nat.le_of_ble_eq_true rfl, Nat.le_of_ble_eq_true rfl⟩ ⟨Nat.le_of_ble_eq_true rfl, Nat.le_of_ble_eq_true rfl⟩ (Nat.le_of_ble_eq_true rfl) dX9_compare_155) fun x155 => ?_
        refine v_ifb_ne hc 163 dX9_compare_158 rfl ?_ ?_
        · refine v_aload_n (i := 0) hc 1 rfl dX9_compare_163 rfl ?_
          refine v_iconst (x := (5 : Int32)) hc dX9_compare_164 zi_5 ?_
          refine v_iload (i := 4) hc 0 rfl dX9_compare_165 ?_
          refine v_iadd hc dX9_compare_167 ?_
          refine v_iconst (x := (0 : Int32)) hc dX9_compare_168 zi_0 ?_
          refine v_cV hc (m_V' (As := [.int ((5 : Int32) + (2 : Int32)), .int (0 : Int32)]) (b := v0) (rest := []) 2 hc hr (fun l D tys base => ct9_puts l D tys base x155.2 v0 ((5 : Int32) + (2 : Int32)) (0 : Int32)) (fun x hx => ob9_puts hx) rfl s9_puts w_1423 rfl ⟨Nat.le_of_ble_eq_true rfl, Nat.le_of_ble_eq_true rfl⟩ ⟨Nat.le_of_ble_eq_true rfl, Nat.le_of_ble_eq_true rfl⟩ (Nat.le_of_ble_eq_true rfl) dX9_compare_169) fun x169 => ?_
          refine v_iconst (x := (1 : Int32)) hc dX9_compare_172 zi_1 ?_
          exact v_iret (v := bI true) hc hq rfl (nar_b true) (Nat.le_of_ble_eq_true rfl) (Nat.le_of_ble_eq_true rfl) rfl dX9_compare_173
        · refine v_iconst (x := (0 : Int32)) hc dX9_compare_161 zi_0 ?_
          exact v_iret (v := bI false) hc hq rfl (nar_b false) (Nat.le_of_ble_eq_true rfl) (Nat.le_of_ble_eq_true rfl) rfl dX9_compare_162
    · refine v_iload_n (i := 3) hc 3 rfl dX9_compare_121 rfl ?_
      refine v_ifb_eq hc 129 dX9_compare_122 rfl ?_ ?_
      · refine v_iconst (x := (0 : Int32)) hc dX9_compare_129 zi_0 ?_
        refine v_goto hc 152 dX9_compare_130 rfl ?_
        refine v_istore (i := 4) (L' := [(4, .int (0 : Int32)), (0, .ref v0), (1, .int v1), (2, .int v2), (3, .int (bI v3))]) hc dX9_compare_152 (hn 4 (Nat.le_of_ble_eq_true rfl)) rfl ?_
        refine v_aload_n (i := 0) hc 1 rfl dX9_compare_154 rfl ?_
        refine v_cwB hc (m_V' (As := []) (b := v0) (rest := []) 0 hc hr (fun l D tys base => ct9_sum l D tys base x107.2 v0) (fun x hx => ob9_sum hx) rfl s9_sum w_1398 rfl ⟨Nat.le_of_ble_eq_true rfl, Nat.le_of_ble_eq_true rfl⟩ ⟨Nat.le_of_ble_eq_true rfl, Nat.le_of_ble_eq_true rfl⟩ (Nat.le_of_ble_eq_true rfl) dX9_compare_155) fun x155 => ?_
        refine v_ifb_ne hc 163 dX9_compare_158 rfl ?_ ?_
        · refine v_aload_n (i := 0) hc 1 rfl dX9_compare_163 rfl ?_
          refine v_iconst (x := (5 : Int32)) hc dX9_compare_164 zi_5 ?_
          refine v_iload (i := 4) hc 0 rfl dX9_compare_165 ?_
          refine v_iadd hc dX9_compare_167 ?_
          refine v_iconst (x := (0 : Int32)) hc dX9_compare_168 zi_0 ?_
          refine v_cV hc (m_V' (As := [.int ((5 : Int32) + (0 : Int32)), .int (0 : Int32)]) (b := v0) (rest := []) 2 hc hr (fun l D tys base => ct9_puts l D tys base x155.2 v0 ((5 : Int32) + (0 : Int32)) (0 : Int32)) (fun x hx => ob9_puts hx) rfl s9_puts w_1423 rfl ⟨Nat.le_of_ble_eq_true rfl, Nat.le_of_ble_eq_true rfl⟩ ⟨Nat.le_of_ble_eq_true rfl, Nat.le_of_ble_eq_true rfl⟩ (Nat.le_of_ble_eq_true rfl) dX9_compare_169) fun x169 => ?_
          refine v_iconst (x := (1 : Int32)) hc dX9_compare_172 zi_1 ?_
          exact v_iret (v := bI true) hc hq rfl (nar_b true) (Nat.le_of_ble_eq_true rfl) (Nat.le_of_ble_eq_true rfl) rfl dX9_compare_173
        · refine v_iconst (x := (0 : Int32)) hc dX9_compare_161 zi_0 ?_
          exact v_iret (v := bI false) hc hq rfl (nar_b false) (Nat.le_of_ble_eq_true rfl) (Nat.le_of_ble_eq_true rfl) rfl dX9_compare_162
      · refine v_iconst (x := (1 : Int32)) hc dX9_compare_125 zi_1 ?_
        refine v_goto hc 152 dX9_compare_126 rfl ?_
        refine v_istore (i := 4) (L' := [(4, .int (1 : Int32)), (0, .ref v0), (1, .int v1), (2, .int v2), (3, .int (bI v3))]) hc dX9_compare_152 (hn 4 (Nat.le_of_ble_eq_true rfl)) rfl ?_
        refine v_aload_n (i := 0) hc 1 rfl dX9_compare_154 rfl ?_
        refine v_cwB hc (m_V' (As := []) (b := v0) (rest := []) 0 hc hr (fun l D tys base => ct9_sum l D tys base x107.2 v0) (fun x hx => ob9_sum hx) rfl s9_sum w_1398 rfl ⟨Nat.le_of_ble_eq_true rfl, Nat.le_of_ble_eq_true rfl⟩ ⟨Nat.le_of_ble_eq_true rfl, Nat.le_of_ble_eq_true rfl⟩ (Nat.le_of_ble_eq_true rfl) dX9_compare_155) fun x155 => ?_
        refine v_ifb_ne hc 163 dX9_compare_158 rfl ?_ ?_
        · refine v_aload_n (i := 0) hc 1 rfl dX9_compare_163 rfl ?_
          refine v_iconst (x := (5 : Int32)) hc dX9_compare_164 zi_5 ?_
          refine v_iload (i := 4) hc 0 rfl dX9_compare_165 ?_
          refine v_iadd hc dX9_compare_167 ?_
          refine v_iconst (x := (0 : Int32)) hc dX9_compare_168 zi_0 ?_
          refine v_cV hc (m_V' (As := [.int ((5 : Int32) + (1 : Int32)), .int (0 : Int32)]) (b := v0) (rest := []) 2 hc hr (fun l D tys base => ct9_puts l D tys base x155.2 v0 ((5 : Int32) + (1 : Int32)) (0 : Int32)) (fun x hx => ob9_puts hx) rfl s9_puts w_1423 rfl ⟨Nat.le_of_ble_eq_true rfl, Nat.le_of_ble_eq_true rfl⟩ ⟨Nat.le_of_ble_eq_true rfl, Nat.le_of_ble_eq_true rfl⟩ (Nat.le_of_ble_eq_true rfl) dX9_compare_169) fun x169 => ?_
          refine v_iconst (x := (1 : Int32)) hc dX9_compare_172 zi_1 ?_
          exact v_iret (v := bI true) hc hq rfl (nar_b true) (Nat.le_of_ble_eq_true rfl) (Nat.le_of_ble_eq_true rfl) rfl dX9_compare_173
        · refine v_iconst (x := (0 : Int32)) hc dX9_compare_161 zi_0 ?_
          exact v_iret (v := bI false) hc hq rfl (nar_b false) (Nat.le_of_ble_eq_true rfl) (Nat.le_of_ble_eq_true rfl) rfl dX9_compare_162
  · refine v_iconst (x := (0 : Int32)) hc dX9_compare_113 zi_0 ?_
    exact v_iret (v := bI false) hc hq rfl (nar_b false) (Nat.le_of_ble_eq_true rfl) (Nat.le_of_ble_eq_true rfl) rfl dX9_compare_114
def f9_compare_44 (h : AH) (v0 : Nat) (v1 : Int32) (v2 : Int32) : Option (Bool × AH) := (fI 9 16 h v0).bind fun x46 => (fS 9 16 h v0 (.int (x46 + (1 : Int32)))).bind fun h51 => (if v1 = (61 : Int32) then (if (0 : Int32) = 0 then f9_compare_105 h51 v0 v1 v2 false else (fI 9 16 h51 v0).bind fun x97 => (fS 9 16 h51 v0 (.int (x97 + (1 : Int32)))).bind fun h102 => f9_compare_105 h102 v0 v1 v2 false) else (fI 9 16 h51 v0).bind fun x61 => (fI 9 2 h51 v0).bind fun x65 => (if x65 ≤ x61 then (if (0 : Int32) = 0 then f9_compare_105 h51 v0 v1 v2 false else (fI 9 16 h51 v0).bind fun x97 => (fS 9 16 h51 v0 (.int (x97 + (1 : Int32)))).bind fun h102 => f9_compare_105 h102 v0 v1 v2 false) else (fR 9 1 h51 v0).bind fun x72 => (fI 9 16 h51 v0).bind fun x76 => (aI 2 h51 x72 x76).bind fun x79 => (if x79 = (61 : Int32) then (if (1 : Int32) = 0 then f9_compare_105 h51 v0 v1 v2 true else (fI 9 16 h51 v0).bind fun x97 => (fS 9 16 h51 v0 (.int (x97 + (1 : Int32)))).bind fun h102 => f9_compare_105 h102 v0 v1 v2 true) else (if (0 : Int32) = 0 then f9_compare_105 h51 v0 v1 v2 false else (fI 9 16 h51 v0).bind fun x97 => (fS 9 16 h51 v0 (.int (x97 + (1 : Int32)))).bind fun h102 => f9_compare_105 h102 v0 v1 v2 false))))
set_option maxRecDepth 100000 in
theorem vl9_compare_44 {κ : Kx} (hc : CX κ RX9 cX9_compare) (hr : RX κ ({ frames := 6, cells := 0, slots := 0, locals := 129 } : Room)) (hq : QX κ (some .boolean) 0 0) (hL : 5 = κ.2.2.2.2.1) (h : AH) (v0 : Nat) (v1 : Int32) (v2 : Int32) : V κ (wB) 0 0 44 [(0, .ref v0), (1, .int v1), (2, .int v2)] [] h (f9_compare_44 h v0 v1 v2) := by
  have hn : ∀ i, i < 5 → i < κ.2.2.2.2.1 := fun i q => hL ▸ q
  unfold f9_compare_44
  refine v_aload_n (i := 0) hc 0 rfl dX9_compare_44 rfl ?_
  refine v_dup hc dX9_compare_45 rfl ?_
  refine v_getV hc kX9 16 (by decide) w_1147 rfl dX9_compare_46 (gI rfl fun x46 => ?_)
  refine v_iconst (x := (1 : Int32)) hc dX9_compare_49 zi_1 ?_
  refine v_iadd hc dX9_compare_50 ?_
  refine v_put hc kX9 16 (by decide) w_1147 rfl rfl dX9_compare_51 ⟨rfl, rfl⟩ fun h51 => ?_
  refine v_iload_n (i := 1) hc 1 rfl dX9_compare_54 rfl ?_
  refine v_bipush (x := (61 : Int32)) hc dX9_compare_55 zb_61 ?_
  refine v_icmp_eq hc 89 dX9_compare_57 rfl ?_ ?_
  · refine v_iconst (x := (0 : Int32)) hc dX9_compare_89 zi_0 ?_
    refine v_istore_n (i := 3) (L' := [(3, .int (0 : Int32)), (0, .ref v0), (1, .int v1), (2, .int v2)]) hc dX9_compare_90 rfl (hn 3 (Nat.le_of_ble_eq_true rfl)) rfl ?_
    refine v_iload_n (i := 3) hc 0 rfl dX9_compare_91 rfl ?_
    refine v_if_eq hc 105 dX9_compare_92 rfl ?_ ?_
    · refine v_sub (L' := [(0, .ref v0), (1, .int v1), (2, .int v2), (3, .int (bI false))]) [1, 2, 3, 0] rfl ?_
      exact vl9_compare_105 hc hr hq hL h51 v0 v1 v2 false
    · refine v_aload_n (i := 0) hc 1 rfl dX9_compare_95 rfl ?_
      refine v_dup hc dX9_compare_96 rfl ?_
      refine v_getV hc kX9 16 (by decide) w_1147 rfl dX9_compare_97 (gI rfl fun x97 => ?_)
      refine v_iconst (x := (1 : Int32)) hc dX9_compare_100 zi_1 ?_
      refine v_iadd hc dX9_compare_101 ?_
      refine v_put hc kX9 16 (by decide) w_1147 rfl rfl dX9_compare_102 ⟨rfl, rfl⟩ fun h102 => ?_
      refine v_sub (L' := [(0, .ref v0), (1, .int v1), (2, .int v2), (3, .int (bI false))]) [1, 2, 3, 0] rfl ?_
      exact vl9_compare_105 hc hr hq hL h102 v0 v1 v2 false
  · refine v_aload_n (i := 0) hc 0 rfl dX9_compare_60 rfl ?_
    refine v_getV hc kX9 16 (by decide) w_1147 rfl dX9_compare_61 (gI rfl fun x61 => ?_)
    refine v_aload_n (i := 0) hc 0 rfl dX9_compare_64 rfl ?_
    refine v_getV hc kX9 2 (by decide) w_1133 rfl dX9_compare_65 (gI rfl fun x65 => ?_)
    refine v_icmp_ge hc 89 dX9_compare_68 rfl ?_ ?_
    · refine v_iconst (x := (0 : Int32)) hc dX9_compare_89 zi_0 ?_
      refine v_istore_n (i := 3) (L' := [(3, .int (0 : Int32)), (0, .ref v0), (1, .int v1), (2, .int v2)]) hc dX9_compare_90 rfl (hn 3 (Nat.le_of_ble_eq_true rfl)) rfl ?_
      refine v_iload_n (i := 3) hc 0 rfl dX9_compare_91 rfl ?_
      refine v_if_eq hc 105 dX9_compare_92 rfl ?_ ?_
      · refine v_sub (L' := [(0, .ref v0), (1, .int v1), (2, .int v2), (3, .int (bI false))]) [1, 2, 3, 0] rfl ?_
        exact vl9_compare_105 hc hr hq hL h51 v0 v1 v2 false
      · refine v_aload_n (i := 0) hc 1 rfl dX9_compare_95 rfl ?_
        refine v_dup hc dX9_compare_96 rfl ?_
        refine v_getV hc kX9 16 (by decide) w_1147 rfl dX9_compare_97 (gI rfl fun x97 => ?_)
        refine v_iconst (x := (1 : Int32)) hc dX9_compare_100 zi_1 ?_
        refine v_iadd hc dX9_compare_101 ?_
        refine v_put hc kX9 16 (by decide) w_1147 rfl rfl dX9_compare_102 ⟨rfl, rfl⟩ fun h102 => ?_
        refine v_sub (L' := [(0, .ref v0), (1, .int v1), (2, .int v2), (3, .int (bI false))]) [1, 2, 3, 0] rfl ?_
        exact vl9_compare_105 hc hr hq hL h102 v0 v1 v2 false
    · refine v_aload_n (i := 0) hc 0 rfl dX9_compare_71 rfl ?_
      refine v_getV hc kX9 1 (by decide) w_1132 rfl dX9_compare_72 (gR rfl fun x72 => ?_)
      refine v_aload_n (i := 0) hc 0 rfl dX9_compare_75 rfl ?_
      refine v_getV hc kX9 16 (by decide) w_1147 rfl dX9_compare_76 (gI rfl fun x76 => ?_)
      refine v_bald hc dX9_compare_79 fun x79 => ?_
      refine v_bipush (x := (61 : Int32)) hc dX9_compare_80 zb_61 ?_
      refine v_icmp_ne hc 89 dX9_compare_82 rfl ?_ ?_
      · refine v_iconst (x := (0 : Int32)) hc dX9_compare_89 zi_0 ?_
        refine v_istore_n (i := 3) (L' := [(3, .int (0 : Int32)), (0, .ref v0), (1, .int v1), (2, .int v2)]) hc dX9_compare_90 rfl (hn 3 (Nat.le_of_ble_eq_true rfl)) rfl ?_
        refine v_iload_n (i := 3) hc 0 rfl dX9_compare_91 rfl ?_
        refine v_if_eq hc 105 dX9_compare_92 rfl ?_ ?_
        · refine v_sub (L' := [(0, .ref v0), (1, .int v1), (2, .int v2), (3, .int (bI false))]) [1, 2, 3, 0] rfl ?_
          exact vl9_compare_105 hc hr hq hL h51 v0 v1 v2 false
        · refine v_aload_n (i := 0) hc 1 rfl dX9_compare_95 rfl ?_
          refine v_dup hc dX9_compare_96 rfl ?_
          refine v_getV hc kX9 16 (by decide) w_1147 rfl dX9_compare_97 (gI rfl fun x97 => ?_)
          refine v_iconst (x := (1 : Int32)) hc dX9_compare_100 zi_1 ?_
          refine v_iadd hc dX9_compare_101 ?_
          refine v_put hc kX9 16 (by decide) w_1147 rfl rfl dX9_compare_102 ⟨rfl, rfl⟩ fun h102 => ?_
          refine v_sub (L' := [(0, .ref v0), (1, .int v1), (2, .int v2), (3, .int (bI false))]) [1, 2, 3, 0] rfl ?_
          exact vl9_compare_105 hc hr hq hL h102 v0 v1 v2 false
      · refine v_iconst (x := (1 : Int32)) hc dX9_compare_85 zi_1 ?_
        refine v_goto hc 90 dX9_compare_86 rfl ?_
        refine v_istore_n (i := 3) (L' := [(3, .int (1 : Int32)), (0, .ref v0), (1, .int v1), (2, .int v2)]) hc dX9_compare_90 rfl (hn 3 (Nat.le_of_ble_eq_true rfl)) rfl ?_
        refine v_iload_n (i := 3) hc 0 rfl dX9_compare_91 rfl ?_
        refine v_if_eq hc 105 dX9_compare_92 rfl ?_ ?_
        · refine v_sub (L' := [(0, .ref v0), (1, .int v1), (2, .int v2), (3, .int (bI true))]) [1, 2, 3, 0] rfl ?_
          exact vl9_compare_105 hc hr hq hL h51 v0 v1 v2 true
        · refine v_aload_n (i := 0) hc 1 rfl dX9_compare_95 rfl ?_
          refine v_dup hc dX9_compare_96 rfl ?_
          refine v_getV hc kX9 16 (by decide) w_1147 rfl dX9_compare_97 (gI rfl fun x97 => ?_)
          refine v_iconst (x := (1 : Int32)) hc dX9_compare_100 zi_1 ?_
          refine v_iadd hc dX9_compare_101 ?_
          refine v_put hc kX9 16 (by decide) w_1147 rfl rfl dX9_compare_102 ⟨rfl, rfl⟩ fun h102 => ?_
          refine v_sub (L' := [(0, .ref v0), (1, .int v1), (2, .int v2), (3, .int (bI true))]) [1, 2, 3, 0] rfl ?_
          exact vl9_compare_105 hc hr hq hL h102 v0 v1 v2 true
def f9_compare (h : AH) (this : Nat) : Option (Bool × AH) := (hObj 9 h this).bind fun _ => (f9_sum h this).bind fun x1 => (if x1.1 = true then (f9_see x1.2 this).bind fun x10 => (fI 9 16 x10.2 this).bind fun x15 => (if x10.1 = (60 : Int32) then f9_compare_44 x10.2 this x10.1 x15 else (if x10.1 = (61 : Int32) then f9_compare_44 x10.2 this x10.1 x15 else (if x10.1 = (62 : Int32) then f9_compare_44 x10.2 this x10.1 x15 else (f9_fails x10.2 this (0 : Int32) x15).bind fun x40 => some (x40.1, x40.2)))) else some (false, x1.2))
theorem ob9_compare {h : AH} {this : Nat} {x : Bool × AH} (e : f9_compare h this = some x) : ∃ fs, hObj 9 h this = some fs := by
  unfold f9_compare at e
  obtain ⟨fs, h1, -⟩ := bd e
  exact ⟨fs, h1⟩
set_option maxRecDepth 100000 in
theorem ct9_compare (l : Launch) (D : va_G) (tys : Tys) (base : Nat) (h : AH) (this : Nat) : Ct l D tys base yX9_compare cX9_compare 5 (some .boolean) 6 129 0 0 [.ref this] h (wB) (f9_compare h this) := by
  refine Ct.intro (own := RX9) (L := [(0, .ref this)]) rfl (by decide) rfl (Nat.le_of_ble_eq_true rfl) fun κ hc hr hq hi hL => ?_
  have hn : ∀ i, i < 5 → i < κ.2.2.2.2.1 := fun i q => hL ▸ q
  unfold f9_compare
  refine v_obj ?_
  refine v_aload_n (i := 0) hc 0 rfl dX9_compare_0 rfl ?_
  refine v_cwB hc (m_V' (As := []) (b := this) (rest := []) 0 hc hr (fun l D tys base => ct9_sum l D tys base h this) (fun x hx => ob9_sum hx) rfl s9_sum w_1398 rfl ⟨Nat.le_of_ble_eq_true rfl, Nat.le_of_ble_eq_true rfl⟩ ⟨Nat.le_of_ble_eq_true rfl, Nat.le_of_ble_eq_true rfl⟩ (Nat.le_of_ble_eq_true rfl) dX9_compare_1) fun x1 => ?_
  refine v_ifb_ne hc 9 dX9_compare_4 rfl ?_ ?_
  · refine v_aload_n (i := 0) hc 0 rfl dX9_compare_9 rfl ?_
    refine v_cwI hc (m_V' (As := []) (b := this) (rest := []) 0 hc hr (fun l D tys base => ct9_see l D tys base x1.2 this) (fun x hx => ob9_see hx) rfl s9_see w_1367 rfl ⟨Nat.le_of_ble_eq_true rfl, Nat.le_of_ble_eq_true rfl⟩ ⟨Nat.le_of_ble_eq_true rfl, Nat.le_of_ble_eq_true rfl⟩ (Nat.le_of_ble_eq_true rfl) dX9_compare_10) fun x10 => ?_
    refine v_istore_n (i := 1) (L' := [(1, .int x10.1), (0, .ref this)]) hc dX9_compare_13 rfl (hn 1 (Nat.le_of_ble_eq_true rfl)) rfl ?_
    refine v_aload_n (i := 0) hc 1 rfl dX9_compare_14 rfl ?_
    refine v_getV hc kX9 16 (by decide) w_1147 rfl dX9_compare_15 (gI rfl fun x15 => ?_)
    refine v_istore_n (i := 2) (L' := [(2, .int x15), (1, .int x10.1), (0, .ref this)]) hc dX9_compare_18 rfl (hn 2 (Nat.le_of_ble_eq_true rfl)) rfl ?_
    refine v_iload_n (i := 1) hc 1 rfl dX9_compare_19 rfl ?_
    refine v_bipush (x := (60 : Int32)) hc dX9_compare_20 zb_60 ?_
    refine v_icmp_eq hc 44 dX9_compare_22 rfl ?_ ?_
    · refine v_sub (L' := [(0, .ref this), (1, .int x10.1), (2, .int x15)]) [2, 1, 0] rfl ?_
      exact vl9_compare_44 hc hr hq hL x10.2 this x10.1 x15
    · refine v_iload_n (i := 1) hc 1 rfl dX9_compare_25 rfl ?_
      refine v_bipush (x := (61 : Int32)) hc dX9_compare_26 zb_61 ?_
      refine v_icmp_eq hc 44 dX9_compare_28 rfl ?_ ?_
      · refine v_sub (L' := [(0, .ref this), (1, .int x10.1), (2, .int x15)]) [2, 1, 0] rfl ?_
        exact vl9_compare_44 hc hr hq hL x10.2 this x10.1 x15
      · refine v_iload_n (i := 1) hc 1 rfl dX9_compare_31 rfl ?_
        refine v_bipush (x := (62 : Int32)) hc dX9_compare_32 zb_62 ?_
        refine v_icmp_eq hc 44 dX9_compare_34 rfl ?_ ?_
        · refine v_sub (L' := [(0, .ref this), (1, .int x10.1), (2, .int x15)]) [2, 1, 0] rfl ?_
          exact vl9_compare_44 hc hr hq hL x10.2 this x10.1 x15
        · refine v_aload_n (i := 0) hc 2 rfl dX9_compare_37 rfl ?_
          refine v_iconst (x := (0 : Int32)) hc dX9_compare_38 zi_0 ?_
          refine v_iload_n (i := 2) hc 0 rfl dX9_compare_39 rfl ?_
          refine v_cwB hc (m_V' (As := [.int (0 : Int32), .int x15]) (b := this) (rest := []) 2 hc hr (fun l D tys base => ct9_fails l D tys base x10.2 this (0 : Int32) x15) (fun x hx => ob9_fails hx) rfl s9_fails w_1386 rfl ⟨Nat.le_of_ble_eq_true rfl, Nat.le_of_ble_eq_true rfl⟩ ⟨Nat.le_of_ble_eq_true rfl, Nat.le_of_ble_eq_true rfl⟩ (Nat.le_of_ble_eq_true rfl) dX9_compare_40) fun x40 => ?_
          exact v_iret (v := bI x40.1) hc hq rfl (nar_b x40.1) (Nat.le_of_ble_eq_true rfl) (Nat.le_of_ble_eq_true rfl) rfl dX9_compare_43
  · refine v_iconst (x := (0 : Int32)) hc dX9_compare_7 zi_0 ?_
    exact v_iret (v := bI false) hc hq rfl (nar_b false) (Nat.le_of_ble_eq_true rfl) (Nat.le_of_ble_eq_true rfl) rfl dX9_compare_8
theorem s9_compare : YV yX9_compare RX9 cX9_compare 5 (some .boolean) 0 := ⟨w_1462, w_1461, w_82, w_118, rfl, by decide +kernel, by decide +kernel, by decide +kernel⟩
def f9_fact__2 (v0 : Nat) : Nat → AH → Bool → Option (Bool × AH)
  | 0, _, _ => none
  | n + 1, h, v1 => (if v1 = true then (f9_see h v0).bind fun x9 => (f9_isWord x9.2 v0 (7237492 : Int64)).bind fun x17 => (if x17.1 = true then (f9_opens x17.2 v0 (10 : Int32)).bind fun x26 => (if x26.1 = true then (f9_passWord x26.2 v0).bind fun x35 => f9_fact__2 v0 n x35 true else some (false, x26.2)) else (if x9.1 = (91 : Int32) then (f9_opens x17.2 v0 (91 : Int32)).bind fun x52 => (if x52.1 = true then (fI 9 16 x52.2 v0).bind fun x62 => (fS 9 16 x52.2 v0 (.int (x62 + (1 : Int32)))).bind fun h67 => f9_fact__2 v0 n h67 true else some (false, x52.2)) else f9_fact__2 v0 n x17.2 false)) else (f9_compare h v0).bind fun x76 => some (x76.1, x76.2))
set_option maxRecDepth 100000 in
theorem vl9_fact__2 {κ : Kx} (hc : CX κ RX9 cX9_fact_) (hr : RX κ ({ frames := 7, cells := 0, slots := 0, locals := 153 } : Room)) (hq : QX κ (some .boolean) 0 0) (hL : 3 = κ.2.2.2.2.1)  (v0 : Nat) : ∀ n (h : AH) (v1 : Bool), V κ (wB) 0 0 2 [(0, .ref v0), (1, .int (bI v1))] [] h (f9_fact__2 v0 n h v1) := by
  have hn : ∀ i, i < 3 → i < κ.2.2.2.2.1 := fun i q => hL ▸ q
  intro n
  induction n with
  | zero => intros; exact v_none
  | succ n ih =>
    intro h v1
    rw [f9_fact__2.eq_2]
    refine v_iload_n (i := 1) hc 1 rfl dX9_fact__2 rfl ?_
    refine v_ifb_eq hc 75 dX9_fact__3 rfl ?_ ?_
    · refine v_aload_n (i := 0) hc 0 rfl dX9_fact__75 rfl ?_
      refine v_cwB hc (m_V' (As := []) (b := v0) (rest := []) 0 hc hr (fun l D tys base => ct9_compare l D tys base h v0) (fun x hx => ob9_compare hx) rfl s9_compare w_1459 rfl ⟨Nat.le_of_ble_eq_true rfl, Nat.le_of_ble_eq_true rfl⟩ ⟨Nat.le_of_ble_eq_true rfl, Nat.le_of_ble_eq_true rfl⟩ (Nat.le_of_ble_eq_true rfl) dX9_fact__76) fun x76 => ?_
      exact v_iret (v := bI x76.1) hc hq rfl (nar_b x76.1) (Nat.le_of_ble_eq_true rfl) (Nat.le_of_ble_eq_true rfl) rfl dX9_fact__79
    · refine v_iconst (x := (0 : Int32)) hc dX9_fact__6 zi_0 ?_
      refine v_istore_n (i := 1) (L' := [(1, .int (0 : Int32)), (0, .ref v0)]) hc dX9_fact__7 rfl (hn 1 (Nat.le_of_ble_eq_true rfl)) rfl ?_
      refine v_aload_n (i := 0) hc 1 rfl dX9_fact__8 rfl ?_
      refine v_cwI hc (m_V' (As := []) (b := v0) (rest := []) 0 hc hr (fun l D tys base => ct9_see l D tys base h v0) (fun x hx => ob9_see hx) rfl s9_see w_1367 rfl ⟨Nat.le_of_ble_eq_true rfl, Nat.le_of_ble_eq_true rfl⟩ ⟨Nat.le_of_ble_eq_true rfl, Nat.le_of_ble_eq_true rfl⟩ (Nat.le_of_ble_eq_true rfl) dX9_fact__9) fun x9 => ?_
      refine v_istore_n (i := 2) (L' := [(2, .int x9.1), (1, .int (0 : Int32)), (0, .ref v0)]) hc dX9_fact__12 rfl (hn 2 (Nat.le_of_ble_eq_true rfl)) rfl ?_
      refine v_aload_n (i := 0) hc 2 rfl dX9_fact__13 rfl ?_
      refine v_ldc2 (x := (7237492 : Int64)) hc w_1454 dX9_fact__14 ?_
      refine v_cwB hc (m_V' (As := [.long (7237492 : Int64)]) (b := v0) (rest := []) 1 hc hr (fun l D tys base => ct9_isWord l D tys base x9.2 v0 (7237492 : Int64)) (fun x hx => ob9_isWord hx) rfl s9_isWord w_1372 rfl ⟨Nat.le_of_ble_eq_true rfl, Nat.le_of_ble_eq_true rfl⟩ ⟨Nat.le_of_ble_eq_true rfl, Nat.le_of_ble_eq_true rfl⟩ (Nat.le_of_ble_eq_true rfl) dX9_fact__17) fun x17 => ?_
      refine v_ifb_eq hc 43 dX9_fact__20 rfl ?_ ?_
      · refine v_iload_n (i := 2) hc 0 rfl dX9_fact__43 rfl ?_
        refine v_bipush (x := (91 : Int32)) hc dX9_fact__44 zb_91 ?_
        refine v_icmp_ne hc 72 dX9_fact__46 rfl ?_ ?_
        · refine v_goto hc 2 dX9_fact__72 rfl ?_
          refine v_sub (L' := [(0, .ref v0), (1, .int (bI false))]) [2, 1] rfl ?_
          exact ih x17.2 false
        · refine v_aload_n (i := 0) hc 2 rfl dX9_fact__49 rfl ?_
          refine v_bipush (x := (91 : Int32)) hc dX9_fact__50 zb_91 ?_
          refine v_cwB hc (m_V' (As := [.int (91 : Int32)]) (b := v0) (rest := []) 1 hc hr (fun l D tys base => ct9_opens l D tys base x17.2 v0 (91 : Int32)) (fun x hx => ob9_opens hx) rfl s9_opens w_1455 rfl ⟨Nat.le_of_ble_eq_true rfl, Nat.le_of_ble_eq_true rfl⟩ ⟨Nat.le_of_ble_eq_true rfl, Nat.le_of_ble_eq_true rfl⟩ (Nat.le_of_ble_eq_true rfl) dX9_fact__52) fun x52 => ?_
          refine v_ifb_ne hc 60 dX9_fact__55 rfl ?_ ?_
          · refine v_aload_n (i := 0) hc 2 rfl dX9_fact__60 rfl ?_
            refine v_dup hc dX9_fact__61 rfl ?_
            refine v_getV hc kX9 16 (by decide) w_1147 rfl dX9_fact__62 (gI rfl fun x62 => ?_)
            refine v_iconst (x := (1 : Int32)) hc dX9_fact__65 zi_1 ?_
            refine v_iadd hc dX9_fact__66 ?_
            refine v_put hc kX9 16 (by decide) w_1147 rfl rfl dX9_fact__67 ⟨rfl, rfl⟩ fun h67 => ?_
            refine v_iconst (x := (1 : Int32)) hc dX9_fact__70 zi_1 ?_
            refine v_istore_n (i := 1) (L' := [(1, .int (1 : Int32)), (2, .int x9.1), (0, .ref v0)]) hc dX9_fact__71 rfl (hn 1 (Nat.le_of_ble_eq_true rfl)) rfl ?_
            refine v_goto hc 2 dX9_fact__72 rfl ?_
            refine v_sub (L' := [(0, .ref v0), (1, .int (bI true))]) [2, 0] rfl ?_
            exact ih h67 true
          · refine v_iconst (x := (0 : Int32)) hc dX9_fact__58 zi_0 ?_
            exact v_iret (v := bI false) hc hq rfl (nar_b false) (Nat.le_of_ble_eq_true rfl) (Nat.le_of_ble_eq_true rfl) rfl dX9_fact__59
      · refine v_aload_n (i := 0) hc 2 rfl dX9_fact__23 rfl ?_
        refine v_bipush (x := (10 : Int32)) hc dX9_fact__24 zb_10 ?_
        refine v_cwB hc (m_V' (As := [.int (10 : Int32)]) (b := v0) (rest := []) 1 hc hr (fun l D tys base => ct9_opens l D tys base x17.2 v0 (10 : Int32)) (fun x hx => ob9_opens hx) rfl s9_opens w_1455 rfl ⟨Nat.le_of_ble_eq_true rfl, Nat.le_of_ble_eq_true rfl⟩ ⟨Nat.le_of_ble_eq_true rfl, Nat.le_of_ble_eq_true rfl⟩ (Nat.le_of_ble_eq_true rfl) dX9_fact__26) fun x26 => ?_
        refine v_ifb_ne hc 34 dX9_fact__29 rfl ?_ ?_
        · refine v_aload_n (i := 0) hc 2 rfl dX9_fact__34 rfl ?_
          refine v_cV hc (m_V' (As := []) (b := v0) (rest := []) 0 hc hr (fun l D tys base => ct9_passWord l D tys base x26.2 v0) (fun x hx => ob9_passWord hx) rfl s9_passWord w_1394 rfl ⟨Nat.le_of_ble_eq_true rfl, Nat.le_of_ble_eq_true rfl⟩ ⟨Nat.le_of_ble_eq_true rfl, Nat.le_of_ble_eq_true rfl⟩ (Nat.le_of_ble_eq_true rfl) dX9_fact__35) fun x35 => ?_
          refine v_iconst (x := (1 : Int32)) hc dX9_fact__38 zi_1 ?_
          refine v_istore_n (i := 1) (L' := [(1, .int (1 : Int32)), (2, .int x9.1), (0, .ref v0)]) hc dX9_fact__39 rfl (hn 1 (Nat.le_of_ble_eq_true rfl)) rfl ?_
          refine v_goto hc 72 dX9_fact__40 rfl ?_
          refine v_goto hc 2 dX9_fact__72 rfl ?_
          refine v_sub (L' := [(0, .ref v0), (1, .int (bI true))]) [2, 0] rfl ?_
          exact ih x35 true
        · refine v_iconst (x := (0 : Int32)) hc dX9_fact__32 zi_0 ?_
          exact v_iret (v := bI false) hc hq rfl (nar_b false) (Nat.le_of_ble_eq_true rfl) (Nat.le_of_ble_eq_true rfl) rfl dX9_fact__33
def f9_fact_ (h : AH) (this : Nat) : Option (Bool × AH) := (hObj 9 h this).bind fun _ => f9_fact__2 this FU h true
theorem ob9_fact_ {h : AH} {this : Nat} {x : Bool × AH} (e : f9_fact_ h this = some x) : ∃ fs, hObj 9 h this = some fs := by
  unfold f9_fact_ at e
  obtain ⟨fs, h1, -⟩ := bd e
  exact ⟨fs, h1⟩
set_option maxRecDepth 100000 in
theorem ct9_fact_ (l : Launch) (D : va_G) (tys : Tys) (base : Nat) (h : AH) (this : Nat) : Ct l D tys base yX9_fact_ cX9_fact_ 3 (some .boolean) 7 153 0 0 [.ref this] h (wB) (f9_fact_ h this) := by
  refine Ct.intro (own := RX9) (L := [(0, .ref this)]) rfl (by decide) rfl (Nat.le_of_ble_eq_true rfl) fun κ hc hr hq hi hL => ?_
  have hn : ∀ i, i < 3 → i < κ.2.2.2.2.1 := fun i q => hL ▸ q
  unfold f9_fact_
  refine v_obj ?_
  refine v_iconst (x := (1 : Int32)) hc dX9_fact__0 zi_1 ?_
  refine v_istore_n (i := 1) (L' := [(1, .int (1 : Int32)), (0, .ref this)]) hc dX9_fact__1 rfl (hn 1 (Nat.le_of_ble_eq_true rfl)) rfl ?_
  refine v_sub (L' := [(0, .ref this), (1, .int (bI true))]) [1, 0] rfl ?_
  exact vl9_fact__2 hc hr hq hL this FU h true
theorem s9_fact_ : YV yX9_fact_ RX9 cX9_fact_ 3 (some .boolean) 0 := ⟨w_1453, w_1452, w_80, w_118, rfl, by decide +kernel, by decide +kernel, by decide +kernel⟩
def f9_strength (h : AH) (p0 : Int32) : Option (Int32) := (if p0 = (12 : Int32) then some (1 : Int32) else (if p0 = (11 : Int32) then some (2 : Int32) else (if p0 = (10 : Int32) then some (3 : Int32) else some (0 : Int32))))
set_option maxRecDepth 100000 in
theorem ct9_strength (l : Launch) (D : va_G) (tys : Tys) (base : Nat) (h : AH) (p0 : Int32) : Ct l D tys base yX9_strength cX9_strength 1 (some .int) 0 0 0 0 [.int p0] h (rI h) (f9_strength h p0) := by
  refine Ct.intro (own := RX9) (L := [(0, .int p0)]) rfl (by decide) rfl (Nat.le_of_ble_eq_true rfl) fun κ hc hr hq hi hL => ?_
  have hn : ∀ i, i < 1 → i < κ.2.2.2.2.1 := fun i q => hL ▸ q
  unfold f9_strength
  refine v_iload_n (i := 0) hc 0 rfl dX9_strength_0 rfl ?_
  refine v_bipush (x := (12 : Int32)) hc dX9_strength_1 zb_12 ?_
  refine v_icmp_ne hc 10 dX9_strength_3 rfl ?_ ?_
  · refine v_iload_n (i := 0) hc 0 rfl dX9_strength_10 rfl ?_
    refine v_bipush (x := (11 : Int32)) hc dX9_strength_11 zb_11 ?_
    refine v_icmp_ne hc 20 dX9_strength_13 rfl ?_ ?_
    · refine v_iload_n (i := 0) hc 0 rfl dX9_strength_20 rfl ?_
      refine v_bipush (x := (10 : Int32)) hc dX9_strength_21 zb_10 ?_
      refine v_icmp_ne hc 30 dX9_strength_23 rfl ?_ ?_
      · refine v_iconst (x := (0 : Int32)) hc dX9_strength_30 zi_0 ?_
        exact v_iret hc hq rfl rfl (Nat.le_of_ble_eq_true rfl) (Nat.le_of_ble_eq_true rfl) rfl dX9_strength_31
      · refine v_iconst (x := (3 : Int32)) hc dX9_strength_26 zi_3 ?_
        refine v_goto hc 31 dX9_strength_27 rfl ?_
        exact v_iret hc hq rfl rfl (Nat.le_of_ble_eq_true rfl) (Nat.le_of_ble_eq_true rfl) rfl dX9_strength_31
    · refine v_iconst (x := (2 : Int32)) hc dX9_strength_16 zi_2 ?_
      refine v_goto hc 31 dX9_strength_17 rfl ?_
      exact v_iret hc hq rfl rfl (Nat.le_of_ble_eq_true rfl) (Nat.le_of_ble_eq_true rfl) rfl dX9_strength_31
  · refine v_iconst (x := (1 : Int32)) hc dX9_strength_6 zi_1 ?_
    refine v_goto hc 31 dX9_strength_7 rfl ?_
    exact v_iret hc hq rfl rfl (Nat.le_of_ble_eq_true rfl) (Nat.le_of_ble_eq_true rfl) rfl dX9_strength_31
theorem s9_strength : YS yX9_strength cX9_strength 1 (some .int) 1 := ⟨w_1473, w_1472, w_118, by decide +kernel, by decide +kernel, by decide +kernel⟩
def f9_settles_0 (v0 : Nat) (v1 : Int32) : Nat → AH → Option (AH)
  | 0, _ => none
  | n + 1, h => (fI 9 24 h v0).bind fun x1 => (if x1 ≤ 0 then some h else (fR 9 23 h v0).bind fun x8 => (fI 9 24 h v0).bind fun x12 => (aI 0 h x8 (x12 - (1 : Int32))).bind fun x17 => (f9_strength h x17).bind fun x18 => (if x18 < v1 then some h else (fI 9 24 h v0).bind fun x27 => (fS 9 24 h v0 (.int (x27 - (1 : Int32)))).bind fun h32 => (fR 9 23 h32 v0).bind fun x37 => (fI 9 24 h32 v0).bind fun x41 => (aI 0 h32 x37 x41).bind fun x44 => (f9_puts h32 v0 x44 (0 : Int32)).bind fun x46 => (fR 9 23 x46 v0).bind fun x50 => (fI 9 24 x46 v0).bind fun x54 => (aI 0 x46 x50 x54).bind fun x57 => (if x57 = (10 : Int32) then (fI 9 21 x46 v0).bind fun x65 => (fS 9 21 x46 v0 (.int (x65 - (1 : Int32)))).bind fun h70 => f9_settles_0 v0 v1 n h70 else f9_settles_0 v0 v1 n x46)))
set_option maxRecDepth 100000 in
theorem vl9_settles_0 {κ : Kx} (hc : CX κ RX9 cX9_settles) (hr : RX κ ({ frames := 1, cells := 0, slots := 0, locals := 22 } : Room)) (hq : QX κ none 0 0) (hL : 2 = κ.2.2.2.2.1)  (v0 : Nat) (v1 : Int32) : ∀ n (h : AH), V κ (wV) 0 0 0 [(0, .ref v0), (1, .int v1)] [] h (f9_settles_0 v0 v1 n h) := by
  have hn : ∀ i, i < 2 → i < κ.2.2.2.2.1 := fun i q => hL ▸ q
  intro n
  induction n with
  | zero => intros; exact v_none
  | succ n ih =>
    intro h
    rw [f9_settles_0.eq_2]
    refine v_aload_n (i := 0) hc 0 rfl dX9_settles_0 rfl ?_
    refine v_getV hc kX9 24 (by decide) w_1155 rfl dX9_settles_1 (gI rfl fun x1 => ?_)
    refine v_if_le hc 76 dX9_settles_4 rfl ?_ ?_
    · exact v_vret hc hq (Nat.le_of_ble_eq_true rfl) (Nat.le_of_ble_eq_true rfl) rfl dX9_settles_76
    · refine v_aload_n (i := 0) hc 0 rfl dX9_settles_7 rfl ?_
      refine v_getV hc kX9 23 (by decide) w_1154 rfl dX9_settles_8 (gR rfl fun x8 => ?_)
      refine v_aload_n (i := 0) hc 0 rfl dX9_settles_11 rfl ?_
      refine v_getV hc kX9 24 (by decide) w_1155 rfl dX9_settles_12 (gI rfl fun x12 => ?_)
      refine v_iconst (x := (1 : Int32)) hc dX9_settles_15 zi_1 ?_
      refine v_isub hc dX9_settles_16 ?_
      refine v_iald hc dX9_settles_17 fun x17 => ?_
      refine v_cI hc (m_S' (As := [.int x17]) (rest := []) 1 hc hr (fun l D tys base => ct9_strength l D tys base h x17) s9_strength w_1471 rfl ⟨Nat.le_of_ble_eq_true rfl, Nat.le_of_ble_eq_true rfl⟩ ⟨Nat.le_of_ble_eq_true rfl, Nat.le_of_ble_eq_true rfl⟩ (Nat.le_of_ble_eq_true rfl) dX9_settles_18) fun x18 => ?_
      refine v_iload_n (i := 1) hc 1 rfl dX9_settles_21 rfl ?_
      refine v_icmp_lt hc 76 dX9_settles_22 rfl ?_ ?_
      · exact v_vret hc hq (Nat.le_of_ble_eq_true rfl) (Nat.le_of_ble_eq_true rfl) rfl dX9_settles_76
      · refine v_aload_n (i := 0) hc 0 rfl dX9_settles_25 rfl ?_
        refine v_dup hc dX9_settles_26 rfl ?_
        refine v_getV hc kX9 24 (by decide) w_1155 rfl dX9_settles_27 (gI rfl fun x27 => ?_)
        refine v_iconst (x := (1 : Int32)) hc dX9_settles_30 zi_1 ?_
        refine v_isub hc dX9_settles_31 ?_
        refine v_put hc kX9 24 (by decide) w_1155 rfl rfl dX9_settles_32 ⟨rfl, rfl⟩ fun h32 => ?_
        refine v_aload_n (i := 0) hc 0 rfl dX9_settles_35 rfl ?_
        refine v_aload_n (i := 0) hc 0 rfl dX9_settles_36 rfl ?_
        refine v_getV hc kX9 23 (by decide) w_1154 rfl dX9_settles_37 (gR rfl fun x37 => ?_)
        refine v_aload_n (i := 0) hc 0 rfl dX9_settles_40 rfl ?_
        refine v_getV hc kX9 24 (by decide) w_1155 rfl dX9_settles_41 (gI rfl fun x41 => ?_)
        refine v_iald hc dX9_settles_44 fun x44 => ?_
        refine v_iconst (x := (0 : Int32)) hc dX9_settles_45 zi_0 ?_
        refine v_cV hc (m_V' (As := [.int x44, .int (0 : Int32)]) (b := v0) (rest := []) 2 hc hr (fun l D tys base => ct9_puts l D tys base h32 v0 x44 (0 : Int32)) (fun x hx => ob9_puts hx) rfl s9_puts w_1423 rfl ⟨Nat.le_of_ble_eq_true rfl, Nat.le_of_ble_eq_true rfl⟩ ⟨Nat.le_of_ble_eq_true rfl, Nat.le_of_ble_eq_true rfl⟩ (Nat.le_of_ble_eq_true rfl) dX9_settles_46) fun x46 => ?_
        refine v_aload_n (i := 0) hc 0 rfl dX9_settles_49 rfl ?_
        refine v_getV hc kX9 23 (by decide) w_1154 rfl dX9_settles_50 (gR rfl fun x50 => ?_)
        refine v_aload_n (i := 0) hc 0 rfl dX9_settles_53 rfl ?_
        refine v_getV hc kX9 24 (by decide) w_1155 rfl dX9_settles_54 (gI rfl fun x54 => ?_)
        refine v_iald hc dX9_settles_57 fun x57 => ?_
        refine v_bipush (x := (10 : Int32)) hc dX9_settles_58 zb_10 ?_
        refine v_icmp_ne hc 0 dX9_settles_60 rfl ?_ ?_
        · refine v_sub (L' := [(0, .ref v0), (1, .int v1)]) [0, 1] rfl ?_
          exact ih x46
        · refine v_aload_n (i := 0) hc 0 rfl dX9_settles_63 rfl ?_
          refine v_dup hc dX9_settles_64 rfl ?_
          refine v_getV hc kX9 21 (by decide) w_1152 rfl dX9_settles_65 (gI rfl fun x65 => ?_)
          refine v_iconst (x := (1 : Int32)) hc dX9_settles_68 zi_1 ?_
          refine v_isub hc dX9_settles_69 ?_
          refine v_put hc kX9 21 (by decide) w_1152 rfl rfl dX9_settles_70 ⟨rfl, rfl⟩ fun h70 => ?_
          refine v_goto hc 0 dX9_settles_73 rfl ?_
          refine v_sub (L' := [(0, .ref v0), (1, .int v1)]) [0, 1] rfl ?_
          exact ih h70
def f9_settles (h : AH) (this : Nat) (p0 : Int32) : Option (AH) := (hObj 9 h this).bind fun _ => f9_settles_0 this p0 FU h
theorem ob9_settles {h : AH} {this : Nat} {p0 : Int32} {x : AH} (e : f9_settles h this p0 = some x) : ∃ fs, hObj 9 h this = some fs := by
  unfold f9_settles at e
  obtain ⟨fs, h1, -⟩ := bd e
  exact ⟨fs, h1⟩
set_option maxRecDepth 100000 in
theorem ct9_settles (l : Launch) (D : va_G) (tys : Tys) (base : Nat) (h : AH) (this : Nat) (p0 : Int32) : Ct l D tys base yX9_settles cX9_settles 2 none 1 22 0 0 [.ref this, .int p0] h (wV) (f9_settles h this p0) := by
  refine Ct.intro (own := RX9) (L := [(0, .ref this), (1, .int p0)]) rfl (by decide) rfl (Nat.le_of_ble_eq_true rfl) fun κ hc hr hq hi hL => ?_
  have hn : ∀ i, i < 2 → i < κ.2.2.2.2.1 := fun i q => hL ▸ q
  unfold f9_settles
  refine v_obj ?_
  refine v_sub (L' := [(0, .ref this), (1, .int p0)]) [0, 1] rfl ?_
  exact vl9_settles_0 hc hr hq hL this p0 FU h
theorem s9_settles : YV yX9_settles RX9 cX9_settles 2 none 1 := ⟨w_1470, w_1469, w_84, w_118, rfl, by decide +kernel, by decide +kernel, by decide +kernel⟩
def f9_isInside_2 (h : AH) (v0 : Nat) : Nat → Int32 → Option (Bool)
  | 0, _ => none
  | n + 1, v1 => (fI 9 24 h v0).bind fun x4 => (if x4 ≤ v1 then some false else (fR 9 23 h v0).bind fun x11 => (aI 0 h x11 v1).bind fun x15 => (if x15 = (91 : Int32) then some true else (some (v1 + (1 : Int32))).bind fun x23 => f9_isInside_2 h v0 n x23))
set_option maxRecDepth 100000 in
theorem vl9_isInside_2 {κ : Kx} (hc : CX κ RX9 cX9_isInside) (hr : RX κ ({ frames := 0, cells := 0, slots := 0, locals := 0 } : Room)) (hq : QX κ (some .boolean) 0 0) (hL : 2 = κ.2.2.2.2.1)  (h : AH) (v0 : Nat) : ∀ n (v1 : Int32), V κ (rB h) 0 0 2 [(0, .ref v0), (1, .int v1)] [] h (f9_isInside_2 h v0 n v1) := by
  have hn : ∀ i, i < 2 → i < κ.2.2.2.2.1 := fun i q => hL ▸ q
  intro n
  induction n with
  | zero => intros; exact v_none
  | succ n ih =>
    intro v1
    rw [f9_isInside_2.eq_2]
    refine v_iload_n (i := 1) hc 1 rfl dX9_isInside_2 rfl ?_
    refine v_aload_n (i := 0) hc 0 rfl dX9_isInside_3 rfl ?_
    refine v_getV hc kX9 24 (by decide) w_1155 rfl dX9_isInside_4 (gI rfl fun x4 => ?_)
    refine v_icmp_ge hc 29 dX9_isInside_7 rfl ?_ ?_
    · refine v_iconst (x := (0 : Int32)) hc dX9_isInside_29 zi_0 ?_
      exact v_iret (v := bI false) hc hq rfl (nar_b false) (Nat.le_of_ble_eq_true rfl) (Nat.le_of_ble_eq_true rfl) rfl dX9_isInside_30
    · refine v_aload_n (i := 0) hc 0 rfl dX9_isInside_10 rfl ?_
      refine v_getV hc kX9 23 (by decide) w_1154 rfl dX9_isInside_11 (gR rfl fun x11 => ?_)
      refine v_iload_n (i := 1) hc 1 rfl dX9_isInside_14 rfl ?_
      refine v_iald hc dX9_isInside_15 fun x15 => ?_
      refine v_bipush (x := (91 : Int32)) hc dX9_isInside_16 zb_91 ?_
      refine v_icmp_ne hc 23 dX9_isInside_18 rfl ?_ ?_
      · refine v_iincN (i := 1) (y := (1 : Int32)) (L' := fun z => [(1, .int z), (0, .ref v0)]) hc 1 rfl dX9_isInside_23 zi_1 (hn 1 (Nat.le_of_ble_eq_true rfl)) (fun _ => rfl) fun x23 => ?_
        refine v_goto hc 2 dX9_isInside_26 rfl ?_
        refine v_sub (L' := [(0, .ref v0), (1, .int x23)]) [1, 0] rfl ?_
        exact ih x23
      · refine v_iconst (x := (1 : Int32)) hc dX9_isInside_21 zi_1 ?_
        exact v_iret (v := bI true) hc hq rfl (nar_b true) (Nat.le_of_ble_eq_true rfl) (Nat.le_of_ble_eq_true rfl) rfl dX9_isInside_22
def f9_isInside (h : AH) (this : Nat) : Option (Bool) := (hObj 9 h this).bind fun _ => f9_isInside_2 h this FU (0 : Int32)
theorem ob9_isInside {h : AH} {this : Nat} {x : Bool} (e : f9_isInside h this = some x) : ∃ fs, hObj 9 h this = some fs := by
  unfold f9_isInside at e
  obtain ⟨fs, h1, -⟩ := bd e
  exact ⟨fs, h1⟩
set_option maxRecDepth 100000 in
theorem ct9_isInside (l : Launch) (D : va_G) (tys : Tys) (base : Nat) (h : AH) (this : Nat) : Ct l D tys base yX9_isInside cX9_isInside 2 (some .boolean) 0 0 0 0 [.ref this] h (rB h) (f9_isInside h this) := by
  refine Ct.intro (own := RX9) (L := [(0, .ref this)]) rfl (by decide) rfl (Nat.le_of_ble_eq_true rfl) fun κ hc hr hq hi hL => ?_
  have hn : ∀ i, i < 2 → i < κ.2.2.2.2.1 := fun i q => hL ▸ q
  unfold f9_isInside
  refine v_obj ?_
  refine v_iconst (x := (0 : Int32)) hc dX9_isInside_0 zi_0 ?_
  refine v_istore_n (i := 1) (L' := [(1, .int (0 : Int32)), (0, .ref this)]) hc dX9_isInside_1 rfl (hn 1 (Nat.le_of_ble_eq_true rfl)) rfl ?_
  refine v_sub (L' := [(0, .ref this), (1, .int (0 : Int32))]) [1, 0] rfl ?_
  exact vl9_isInside_2 hc hr hq hL h this FU (0 : Int32)
theorem s9_isInside : YV yX9_isInside RX9 cX9_isInside 2 (some .boolean) 0 := ⟨w_1477, w_1476, w_85, w_118, rfl, by decide +kernel, by decide +kernel, by decide +kernel⟩
def f9_closes_5 (v0 : Nat) : Nat → AH → Option (AH)
  | 0, _ => none
  | n + 1, h => (f9_see h v0).bind fun x6 => (if x6.1 = (93 : Int32) then (f9_isInside x6.2 v0).bind fun x15 => (if x15 = true then (f9_settles x6.2 v0 (1 : Int32)).bind fun x23 => (fI 9 24 x23 v0).bind fun x28 => (fS 9 24 x23 v0 (.int (x28 - (1 : Int32)))).bind fun h33 => (fI 9 21 h33 v0).bind fun x38 => (fS 9 21 h33 v0 (.int (x38 - (1 : Int32)))).bind fun h43 => (fI 9 16 h43 v0).bind fun x48 => (fS 9 16 h43 v0 (.int (x48 + (1 : Int32)))).bind fun h53 => (f9_settles h53 v0 (3 : Int32)).bind fun x58 => f9_closes_5 v0 n x58 else some x6.2) else some x6.2)
set_option maxRecDepth 100000 in
theorem vl9_closes_5 {κ : Kx} (hc : CX κ RX9 cX9_closes) (hr : RX κ ({ frames := 2, cells := 0, slots := 0, locals := 43 } : Room)) (hq : QX κ none 0 0) (hL : 1 = κ.2.2.2.2.1)  (v0 : Nat) : ∀ n (h : AH), V κ (wV) 0 0 5 [(0, .ref v0)] [] h (f9_closes_5 v0 n h) := by
  have hn : ∀ i, i < 1 → i < κ.2.2.2.2.1 := fun i q => hL ▸ q
  intro n
  induction n with
  | zero => intros; exact v_none
  | succ n ih =>
    intro h
    rw [f9_closes_5.eq_2]
    refine v_aload_n (i := 0) hc 0 rfl dX9_closes_5 rfl ?_
    refine v_cwI hc (m_V' (As := []) (b := v0) (rest := []) 0 hc hr (fun l D tys base => ct9_see l D tys base h v0) (fun x hx => ob9_see hx) rfl s9_see w_1367 rfl ⟨Nat.le_of_ble_eq_true rfl, Nat.le_of_ble_eq_true rfl⟩ ⟨Nat.le_of_ble_eq_true rfl, Nat.le_of_ble_eq_true rfl⟩ (Nat.le_of_ble_eq_true rfl) dX9_closes_6) fun x6 => ?_
    refine v_bipush (x := (93 : Int32)) hc dX9_closes_9 zb_93 ?_
    refine v_icmp_ne hc 64 dX9_closes_11 rfl ?_ ?_
    · exact v_vret hc hq (Nat.le_of_ble_eq_true rfl) (Nat.le_of_ble_eq_true rfl) rfl dX9_closes_64
    · refine v_aload_n (i := 0) hc 0 rfl dX9_closes_14 rfl ?_
      refine v_cB hc (m_V' (As := []) (b := v0) (rest := []) 0 hc hr (fun l D tys base => ct9_isInside l D tys base x6.2 v0) (fun x hx => ob9_isInside hx) rfl s9_isInside w_1474 rfl ⟨Nat.le_of_ble_eq_true rfl, Nat.le_of_ble_eq_true rfl⟩ ⟨Nat.le_of_ble_eq_true rfl, Nat.le_of_ble_eq_true rfl⟩ (Nat.le_of_ble_eq_true rfl) dX9_closes_15) fun x15 => ?_
      refine v_ifb_eq hc 64 dX9_closes_18 rfl ?_ ?_
      · exact v_vret hc hq (Nat.le_of_ble_eq_true rfl) (Nat.le_of_ble_eq_true rfl) rfl dX9_closes_64
      · refine v_aload_n (i := 0) hc 0 rfl dX9_closes_21 rfl ?_
        refine v_iconst (x := (1 : Int32)) hc dX9_closes_22 zi_1 ?_
        refine v_cV hc (m_V' (As := [.int (1 : Int32)]) (b := v0) (rest := []) 1 hc hr (fun l D tys base => ct9_settles l D tys base x6.2 v0 (1 : Int32)) (fun x hx => ob9_settles hx) rfl s9_settles w_1467 rfl ⟨Nat.le_of_ble_eq_true rfl, Nat.le_of_ble_eq_true rfl⟩ ⟨Nat.le_of_ble_eq_true rfl, Nat.le_of_ble_eq_true rfl⟩ (Nat.le_of_ble_eq_true rfl) dX9_closes_23) fun x23 => ?_
        refine v_aload_n (i := 0) hc 0 rfl dX9_closes_26 rfl ?_
        refine v_dup hc dX9_closes_27 rfl ?_
        refine v_getV hc kX9 24 (by decide) w_1155 rfl dX9_closes_28 (gI rfl fun x28 => ?_)
        refine v_iconst (x := (1 : Int32)) hc dX9_closes_31 zi_1 ?_
        refine v_isub hc dX9_closes_32 ?_
        refine v_put hc kX9 24 (by decide) w_1155 rfl rfl dX9_closes_33 ⟨rfl, rfl⟩ fun h33 => ?_
        refine v_aload_n (i := 0) hc 0 rfl dX9_closes_36 rfl ?_
        refine v_dup hc dX9_closes_37 rfl ?_
        refine v_getV hc kX9 21 (by decide) w_1152 rfl dX9_closes_38 (gI rfl fun x38 => ?_)
        refine v_iconst (x := (1 : Int32)) hc dX9_closes_41 zi_1 ?_
        refine v_isub hc dX9_closes_42 ?_
        refine v_put hc kX9 21 (by decide) w_1152 rfl rfl dX9_closes_43 ⟨rfl, rfl⟩ fun h43 => ?_
        refine v_aload_n (i := 0) hc 0 rfl dX9_closes_46 rfl ?_
        refine v_dup hc dX9_closes_47 rfl ?_
        refine v_getV hc kX9 16 (by decide) w_1147 rfl dX9_closes_48 (gI rfl fun x48 => ?_)
        refine v_iconst (x := (1 : Int32)) hc dX9_closes_51 zi_1 ?_
        refine v_iadd hc dX9_closes_52 ?_
        refine v_put hc kX9 16 (by decide) w_1147 rfl rfl dX9_closes_53 ⟨rfl, rfl⟩ fun h53 => ?_
        refine v_aload_n (i := 0) hc 0 rfl dX9_closes_56 rfl ?_
        refine v_iconst (x := (3 : Int32)) hc dX9_closes_57 zi_3 ?_
        refine v_cV hc (m_V' (As := [.int (3 : Int32)]) (b := v0) (rest := []) 1 hc hr (fun l D tys base => ct9_settles l D tys base h53 v0 (3 : Int32)) (fun x hx => ob9_settles hx) rfl s9_settles w_1467 rfl ⟨Nat.le_of_ble_eq_true rfl, Nat.le_of_ble_eq_true rfl⟩ ⟨Nat.le_of_ble_eq_true rfl, Nat.le_of_ble_eq_true rfl⟩ (Nat.le_of_ble_eq_true rfl) dX9_closes_58) fun x58 => ?_
        refine v_goto hc 5 dX9_closes_61 rfl ?_
        refine v_sub (L' := [(0, .ref v0)]) [0] rfl ?_
        exact ih x58
def f9_closes (h : AH) (this : Nat) : Option (AH) := (hObj 9 h this).bind fun _ => (f9_settles h this (3 : Int32)).bind fun x2 => f9_closes_5 this FU x2
theorem ob9_closes {h : AH} {this : Nat} {x : AH} (e : f9_closes h this = some x) : ∃ fs, hObj 9 h this = some fs := by
  unfold f9_closes at e
  obtain ⟨fs, h1, -⟩ := bd e
  exact ⟨fs, h1⟩
set_option maxRecDepth 100000 in
theorem ct9_closes (l : Launch) (D : va_G) (tys : Tys) (base : Nat) (h : AH) (this : Nat) : Ct l D tys base yX9_closes cX9_closes 1 none 2 43 0 0 [.ref this] h (wV) (f9_closes h this) := by
  refine Ct.intro (own := RX9) (L := [(0, .ref this)]) rfl (by decide) rfl (Nat.le_of_ble_eq_true rfl) fun κ hc hr hq hi hL => ?_
  have hn : ∀ i, i < 1 → i < κ.2.2.2.2.1 := fun i q => hL ▸ q
  unfold f9_closes
  refine v_obj ?_
  refine v_aload_n (i := 0) hc 0 rfl dX9_closes_0 rfl ?_
  refine v_iconst (x := (3 : Int32)) hc dX9_closes_1 zi_3 ?_
  refine v_cV hc (m_V' (As := [.int (3 : Int32)]) (b := this) (rest := []) 1 hc hr (fun l D tys base => ct9_settles l D tys base h this (3 : Int32)) (fun x hx => ob9_settles hx) rfl s9_settles w_1467 rfl ⟨Nat.le_of_ble_eq_true rfl, Nat.le_of_ble_eq_true rfl⟩ ⟨Nat.le_of_ble_eq_true rfl, Nat.le_of_ble_eq_true rfl⟩ (Nat.le_of_ble_eq_true rfl) dX9_closes_2) fun x2 => ?_
  refine v_sub (L' := [(0, .ref this)]) [0] rfl ?_
  exact vl9_closes_5 hc hr hq hL this FU x2
theorem s9_closes : YV yX9_closes RX9 cX9_closes 1 none 0 := ⟨w_1466, w_1465, w_83, w_118, rfl, by decide +kernel, by decide +kernel, by decide +kernel⟩
def f9_tested_76 (k12 : AH → Bool → Option (Bool × AH)) (h : AH) (v0 : Nat) (v1 : Bool) (s0 : Int32) : Option (Bool × AH) := (f9_passWord h v0).bind fun x78 => (f9_strength x78 s0).bind fun x83 => (f9_settles x78 v0 x83).bind fun x86 => (fR 9 23 x86 v0).bind fun x90 => (fI 9 24 x86 v0).bind fun x94 => (sI 0 x86 x90 x94 s0).bind fun h98 => (fI 9 24 h98 v0).bind fun x101 => (fS 9 24 h98 v0 (.int (x101 + (1 : Int32)))).bind fun h106 => k12 h106 v1
set_option maxRecDepth 100000 in
theorem vl9_tested_76 {κ : Kx} (hc : CX κ RX9 cX9_tested) (hr : RX κ ({ frames := 8, cells := 0, slots := 0, locals := 175 } : Room)) (hq : QX κ (some .boolean) 0 0) (hL : 3 = κ.2.2.2.2.1) (k12 : AH → Bool → Option (Bool × AH)) (h : AH) (v0 : Nat) (hk12 : ∀ (h : AH) (v1 : Bool), V κ (wB) 0 0 12 [(0, .ref v0), (1, .int (bI v1))] [] h (k12 h v1)) (v1 : Bool) (s0 : Int32) : V κ (wB) 0 0 76 [(0, .ref v0), (1, .int (bI v1))] [.int s0] h (f9_tested_76 k12 h v0 v1 s0) := by
  have hn : ∀ i, i < 3 → i < κ.2.2.2.2.1 := fun i q => hL ▸ q
  unfold f9_tested_76
  refine v_istore_n (i := 2) (L' := [(2, .int s0), (0, .ref v0), (1, .int (bI v1))]) hc dX9_tested_76 rfl (hn 2 (Nat.le_of_ble_eq_true rfl)) rfl ?_
  refine v_aload_n (i := 0) hc 1 rfl dX9_tested_77 rfl ?_
  refine v_cV hc (m_V' (As := []) (b := v0) (rest := []) 0 hc hr (fun l D tys base => ct9_passWord l D tys base h v0) (fun x hx => ob9_passWord hx) rfl s9_passWord w_1394 rfl ⟨Nat.le_of_ble_eq_true rfl, Nat.le_of_ble_eq_true rfl⟩ ⟨Nat.le_of_ble_eq_true rfl, Nat.le_of_ble_eq_true rfl⟩ (Nat.le_of_ble_eq_true rfl) dX9_tested_78) fun x78 => ?_
  refine v_aload_n (i := 0) hc 1 rfl dX9_tested_81 rfl ?_
  refine v_iload_n (i := 2) hc 0 rfl dX9_tested_82 rfl ?_
  refine v_cI hc (m_S' (As := [.int s0]) (rest := [.ref v0]) 1 hc hr (fun l D tys base => ct9_strength l D tys base x78 s0) s9_strength w_1471 rfl ⟨Nat.le_of_ble_eq_true rfl, Nat.le_of_ble_eq_true rfl⟩ ⟨Nat.le_of_ble_eq_true rfl, Nat.le_of_ble_eq_true rfl⟩ (Nat.le_of_ble_eq_true rfl) dX9_tested_83) fun x83 => ?_
  refine v_cV hc (m_V' (As := [.int x83]) (b := v0) (rest := []) 1 hc hr (fun l D tys base => ct9_settles l D tys base x78 v0 x83) (fun x hx => ob9_settles hx) rfl s9_settles w_1467 rfl ⟨Nat.le_of_ble_eq_true rfl, Nat.le_of_ble_eq_true rfl⟩ ⟨Nat.le_of_ble_eq_true rfl, Nat.le_of_ble_eq_true rfl⟩ (Nat.le_of_ble_eq_true rfl) dX9_tested_86) fun x86 => ?_
  refine v_aload_n (i := 0) hc 1 rfl dX9_tested_89 rfl ?_
  refine v_getV hc kX9 23 (by decide) w_1154 rfl dX9_tested_90 (gR rfl fun x90 => ?_)
  refine v_aload_n (i := 0) hc 1 rfl dX9_tested_93 rfl ?_
  refine v_getV hc kX9 24 (by decide) w_1155 rfl dX9_tested_94 (gI rfl fun x94 => ?_)
  refine v_iload_n (i := 2) hc 0 rfl dX9_tested_97 rfl ?_
  refine v_iast hc dX9_tested_98 fun h98 => ?_
  refine v_aload_n (i := 0) hc 1 rfl dX9_tested_99 rfl ?_
  refine v_dup hc dX9_tested_100 rfl ?_
  refine v_getV hc kX9 24 (by decide) w_1155 rfl dX9_tested_101 (gI rfl fun x101 => ?_)
  refine v_iconst (x := (1 : Int32)) hc dX9_tested_104 zi_1 ?_
  refine v_iadd hc dX9_tested_105 ?_
  refine v_put hc kX9 24 (by decide) w_1155 rfl rfl dX9_tested_106 ⟨rfl, rfl⟩ fun h106 => ?_
  refine v_goto hc 12 dX9_tested_109 rfl ?_
  refine v_sub (L' := [(0, .ref v0), (1, .int (bI v1))]) [1, 2] rfl ?_
  exact hk12 h106 v1
def f9_tested_49 (k12 : AH → Bool → Option (Bool × AH)) (h : AH) (v0 : Nat) : Option (Bool × AH) := (if (1 : Int32) = 0 then k12 h true else (f9_isWord h v0 (6385252 : Int64)).bind fun x63 => (if x63.1 = true then f9_tested_76 k12 x63.2 v0 true (11 : Int32) else f9_tested_76 k12 x63.2 v0 true (12 : Int32)))
set_option maxRecDepth 100000 in
theorem vl9_tested_49 {κ : Kx} (hc : CX κ RX9 cX9_tested) (hr : RX κ ({ frames := 8, cells := 0, slots := 0, locals := 175 } : Room)) (hq : QX κ (some .boolean) 0 0) (hL : 3 = κ.2.2.2.2.1) (k12 : AH → Bool → Option (Bool × AH)) (h : AH) (v0 : Nat) (hk12 : ∀ (h : AH) (v1 : Bool), V κ (wB) 0 0 12 [(0, .ref v0), (1, .int (bI v1))] [] h (k12 h v1)) : V κ (wB) 0 0 49 [(0, .ref v0)] [] h (f9_tested_49 k12 h v0) := by
  have hn : ∀ i, i < 3 → i < κ.2.2.2.2.1 := fun i q => hL ▸ q
  unfold f9_tested_49
  refine v_iconst (x := (1 : Int32)) hc dX9_tested_49 zi_1 ?_
  refine v_goto hc 54 dX9_tested_50 rfl ?_
  refine v_istore_n (i := 1) (L' := [(1, .int (1 : Int32)), (0, .ref v0)]) hc dX9_tested_54 rfl (hn 1 (Nat.le_of_ble_eq_true rfl)) rfl ?_
  refine v_iload_n (i := 1) hc 0 rfl dX9_tested_55 rfl ?_
  refine v_if_eq hc 12 dX9_tested_56 rfl ?_ ?_
  · refine v_sub (L' := [(0, .ref v0), (1, .int (bI true))]) [1, 0] rfl ?_
    exact hk12 h true
  · refine v_aload_n (i := 0) hc 1 rfl dX9_tested_59 rfl ?_
    refine v_ldc2 (x := (6385252 : Int64)) hc w_1478 dX9_tested_60 ?_
    refine v_cwB hc (m_V' (As := [.long (6385252 : Int64)]) (b := v0) (rest := []) 1 hc hr (fun l D tys base => ct9_isWord l D tys base h v0 (6385252 : Int64)) (fun x hx => ob9_isWord hx) rfl s9_isWord w_1372 rfl ⟨Nat.le_of_ble_eq_true rfl, Nat.le_of_ble_eq_true rfl⟩ ⟨Nat.le_of_ble_eq_true rfl, Nat.le_of_ble_eq_true rfl⟩ (Nat.le_of_ble_eq_true rfl) dX9_tested_63) fun x63 => ?_
    refine v_ifb_eq hc 74 dX9_tested_66 rfl ?_ ?_
    · refine v_bipush (x := (12 : Int32)) hc dX9_tested_74 zb_12 ?_
      refine v_sub (L' := [(0, .ref v0), (1, .int (bI true))]) [1, 0] rfl ?_
      exact vl9_tested_76 hc hr hq hL k12 x63.2 v0 hk12 true (12 : Int32)
    · refine v_bipush (x := (11 : Int32)) hc dX9_tested_69 zb_11 ?_
      refine v_goto hc 76 dX9_tested_71 rfl ?_
      refine v_sub (L' := [(0, .ref v0), (1, .int (bI true))]) [1, 0] rfl ?_
      exact vl9_tested_76 hc hr hq hL k12 x63.2 v0 hk12 true (11 : Int32)
def f9_tested_12 (v0 : Nat) : Nat → AH → Bool → Option (Bool × AH)
  | 0, _, _ => none
  | n + 1, h, v1 => (if v1 = true then (f9_fact_ h v0).bind fun x17 => (if x17.1 = true then (f9_closes x17.2 v0).bind fun x26 => (f9_isWord x26 v0 (6385252 : Int64)).bind fun x33 => (if x33.1 = true then f9_tested_49 (fun h v1 => f9_tested_12 v0 n h v1) x33.2 v0 else (f9_isWord x33.2 v0 (28530 : Int64)).bind fun x43 => (if x43.1 = true then f9_tested_49 (fun h v1 => f9_tested_12 v0 n h v1) x43.2 v0 else (if (0 : Int32) = 0 then f9_tested_12 v0 n x43.2 false else (f9_isWord x43.2 v0 (6385252 : Int64)).bind fun x63 => (if x63.1 = true then f9_tested_76 (fun h v1 => f9_tested_12 v0 n h v1) x63.2 v0 false (11 : Int32) else f9_tested_76 (fun h v1 => f9_tested_12 v0 n h v1) x63.2 v0 false (12 : Int32))))) else some (false, x17.2)) else (f9_isInside h v0).bind fun x113 => (if x113 = true then (f9_see h v0).bind fun x120 => (fI 9 16 x120.2 v0).bind fun x127 => (f9_fails x120.2 v0 (0 : Int32) x127).bind fun x130 => some (x130.1, x130.2) else (f9_settles h v0 (1 : Int32)).bind fun x136 => some (true, x136)))
set_option maxRecDepth 100000 in
theorem vl9_tested_12 {κ : Kx} (hc : CX κ RX9 cX9_tested) (hr : RX κ ({ frames := 8, cells := 0, slots := 0, locals := 175 } : Room)) (hq : QX κ (some .boolean) 0 0) (hL : 3 = κ.2.2.2.2.1)  (v0 : Nat) : ∀ n (h : AH) (v1 : Bool), V κ (wB) 0 0 12 [(0, .ref v0), (1, .int (bI v1))] [] h (f9_tested_12 v0 n h v1) := by
  have hn : ∀ i, i < 3 → i < κ.2.2.2.2.1 := fun i q => hL ▸ q
  intro n
  induction n with
  | zero => intros; exact v_none
  | succ n ih =>
    intro h v1
    rw [f9_tested_12.eq_2]
    refine v_iload_n (i := 1) hc 1 rfl dX9_tested_12 rfl ?_
    refine v_ifb_eq hc 112 dX9_tested_13 rfl ?_ ?_
    · refine v_aload_n (i := 0) hc 0 rfl dX9_tested_112 rfl ?_
      refine v_cB hc (m_V' (As := []) (b := v0) (rest := []) 0 hc hr (fun l D tys base => ct9_isInside l D tys base h v0) (fun x hx => ob9_isInside hx) rfl s9_isInside w_1474 rfl ⟨Nat.le_of_ble_eq_true rfl, Nat.le_of_ble_eq_true rfl⟩ ⟨Nat.le_of_ble_eq_true rfl, Nat.le_of_ble_eq_true rfl⟩ (Nat.le_of_ble_eq_true rfl) dX9_tested_113) fun x113 => ?_
      refine v_ifb_eq hc 134 dX9_tested_116 rfl ?_ ?_
      · refine v_aload_n (i := 0) hc 0 rfl dX9_tested_134 rfl ?_
        refine v_iconst (x := (1 : Int32)) hc dX9_tested_135 zi_1 ?_
        refine v_cV hc (m_V' (As := [.int (1 : Int32)]) (b := v0) (rest := []) 1 hc hr (fun l D tys base => ct9_settles l D tys base h v0 (1 : Int32)) (fun x hx => ob9_settles hx) rfl s9_settles w_1467 rfl ⟨Nat.le_of_ble_eq_true rfl, Nat.le_of_ble_eq_true rfl⟩ ⟨Nat.le_of_ble_eq_true rfl, Nat.le_of_ble_eq_true rfl⟩ (Nat.le_of_ble_eq_true rfl) dX9_tested_136) fun x136 => ?_
        refine v_iconst (x := (1 : Int32)) hc dX9_tested_139 zi_1 ?_
        exact v_iret (v := bI true) hc hq rfl (nar_b true) (Nat.le_of_ble_eq_true rfl) (Nat.le_of_ble_eq_true rfl) rfl dX9_tested_140
      · refine v_aload_n (i := 0) hc 0 rfl dX9_tested_119 rfl ?_
        refine v_cwI hc (m_V' (As := []) (b := v0) (rest := []) 0 hc hr (fun l D tys base => ct9_see l D tys base h v0) (fun x hx => ob9_see hx) rfl s9_see w_1367 rfl ⟨Nat.le_of_ble_eq_true rfl, Nat.le_of_ble_eq_true rfl⟩ ⟨Nat.le_of_ble_eq_true rfl, Nat.le_of_ble_eq_true rfl⟩ (Nat.le_of_ble_eq_true rfl) dX9_tested_120) fun x120 => ?_
        refine v_pop hc dX9_tested_123 rfl ?_
        refine v_aload_n (i := 0) hc 0 rfl dX9_tested_124 rfl ?_
        refine v_iconst (x := (0 : Int32)) hc dX9_tested_125 zi_0 ?_
        refine v_aload_n (i := 0) hc 0 rfl dX9_tested_126 rfl ?_
        refine v_getV hc kX9 16 (by decide) w_1147 rfl dX9_tested_127 (gI rfl fun x127 => ?_)
        refine v_cwB hc (m_V' (As := [.int (0 : Int32), .int x127]) (b := v0) (rest := []) 2 hc hr (fun l D tys base => ct9_fails l D tys base x120.2 v0 (0 : Int32) x127) (fun x hx => ob9_fails hx) rfl s9_fails w_1386 rfl ⟨Nat.le_of_ble_eq_true rfl, Nat.le_of_ble_eq_true rfl⟩ ⟨Nat.le_of_ble_eq_true rfl, Nat.le_of_ble_eq_true rfl⟩ (Nat.le_of_ble_eq_true rfl) dX9_tested_130) fun x130 => ?_
        exact v_iret (v := bI x130.1) hc hq rfl (nar_b x130.1) (Nat.le_of_ble_eq_true rfl) (Nat.le_of_ble_eq_true rfl) rfl dX9_tested_133
    · refine v_aload_n (i := 0) hc 0 rfl dX9_tested_16 rfl ?_
      refine v_cwB hc (m_V' (As := []) (b := v0) (rest := []) 0 hc hr (fun l D tys base => ct9_fact_ l D tys base h v0) (fun x hx => ob9_fact_ hx) rfl s9_fact_ w_1450 rfl ⟨Nat.le_of_ble_eq_true rfl, Nat.le_of_ble_eq_true rfl⟩ ⟨Nat.le_of_ble_eq_true rfl, Nat.le_of_ble_eq_true rfl⟩ (Nat.le_of_ble_eq_true rfl) dX9_tested_17) fun x17 => ?_
      refine v_ifb_ne hc 25 dX9_tested_20 rfl ?_ ?_
      · refine v_aload_n (i := 0) hc 0 rfl dX9_tested_25 rfl ?_
        refine v_cV hc (m_V' (As := []) (b := v0) (rest := []) 0 hc hr (fun l D tys base => ct9_closes l D tys base x17.2 v0) (fun x hx => ob9_closes hx) rfl s9_closes w_1463 rfl ⟨Nat.le_of_ble_eq_true rfl, Nat.le_of_ble_eq_true rfl⟩ ⟨Nat.le_of_ble_eq_true rfl, Nat.le_of_ble_eq_true rfl⟩ (Nat.le_of_ble_eq_true rfl) dX9_tested_26) fun x26 => ?_
        refine v_aload_n (i := 0) hc 0 rfl dX9_tested_29 rfl ?_
        refine v_ldc2 (x := (6385252 : Int64)) hc w_1478 dX9_tested_30 ?_
        refine v_cwB hc (m_V' (As := [.long (6385252 : Int64)]) (b := v0) (rest := []) 1 hc hr (fun l D tys base => ct9_isWord l D tys base x26 v0 (6385252 : Int64)) (fun x hx => ob9_isWord hx) rfl s9_isWord w_1372 rfl ⟨Nat.le_of_ble_eq_true rfl, Nat.le_of_ble_eq_true rfl⟩ ⟨Nat.le_of_ble_eq_true rfl, Nat.le_of_ble_eq_true rfl⟩ (Nat.le_of_ble_eq_true rfl) dX9_tested_33) fun x33 => ?_
        refine v_ifb_ne hc 49 dX9_tested_36 rfl ?_ ?_
        · refine v_sub (L' := [(0, .ref v0)]) [0] rfl ?_
          exact vl9_tested_49 hc hr hq hL (fun h v1 => f9_tested_12 v0 n h v1) x33.2 v0 ih
        · refine v_aload_n (i := 0) hc 0 rfl dX9_tested_39 rfl ?_
          refine v_ldc2 (x := (28530 : Int64)) hc w_1479 dX9_tested_40 ?_
          refine v_cwB hc (m_V' (As := [.long (28530 : Int64)]) (b := v0) (rest := []) 1 hc hr (fun l D tys base => ct9_isWord l D tys base x33.2 v0 (28530 : Int64)) (fun x hx => ob9_isWord hx) rfl s9_isWord w_1372 rfl ⟨Nat.le_of_ble_eq_true rfl, Nat.le_of_ble_eq_true rfl⟩ ⟨Nat.le_of_ble_eq_true rfl, Nat.le_of_ble_eq_true rfl⟩ (Nat.le_of_ble_eq_true rfl) dX9_tested_43) fun x43 => ?_
          refine v_ifb_eq hc 53 dX9_tested_46 rfl ?_ ?_
          · refine v_iconst (x := (0 : Int32)) hc dX9_tested_53 zi_0 ?_
            refine v_istore_n (i := 1) (L' := [(1, .int (0 : Int32)), (0, .ref v0)]) hc dX9_tested_54 rfl (hn 1 (Nat.le_of_ble_eq_true rfl)) rfl ?_
            refine v_iload_n (i := 1) hc 0 rfl dX9_tested_55 rfl ?_
            refine v_if_eq hc 12 dX9_tested_56 rfl ?_ ?_
            · refine v_sub (L' := [(0, .ref v0), (1, .int (bI false))]) [1, 0] rfl ?_
              exact ih x43.2 false
            · refine v_aload_n (i := 0) hc 1 rfl dX9_tested_59 rfl ?_
              refine v_ldc2 (x := (6385252 : Int64)) hc w_1478 dX9_tested_60 ?_
              refine v_cwB hc (m_V' (As := [.long (6385252 : Int64)]) (b := v0) (rest := []) 1 hc hr (fun l D tys base => ct9_isWord l D tys base x43.2 v0 (6385252 : Int64)) (fun x hx => ob9_isWord hx) rfl s9_isWord w_1372 rfl ⟨Nat.le_of_ble_eq_true rfl, Nat.le_of_ble_eq_true rfl⟩ ⟨Nat.le_of_ble_eq_true rfl, Nat.le_of_ble_eq_true rfl⟩ (Nat.le_of_ble_eq_true rfl) dX9_tested_63) fun x63 => ?_
              refine v_ifb_eq hc 74 dX9_tested_66 rfl ?_ ?_
              · refine v_bipush (x := (12 : Int32)) hc dX9_tested_74 zb_12 ?_
                refine v_sub (L' := [(0, .ref v0), (1, .int (bI false))]) [1, 0] rfl ?_
                exact vl9_tested_76 hc hr hq hL (fun h v1 => f9_tested_12 v0 n h v1) x63.2 v0 ih false (12 : Int32)
              · refine v_bipush (x := (11 : Int32)) hc dX9_tested_69 zb_11 ?_
                refine v_goto hc 76 dX9_tested_71 rfl ?_
                refine v_sub (L' := [(0, .ref v0), (1, .int (bI false))]) [1, 0] rfl ?_
                exact vl9_tested_76 hc hr hq hL (fun h v1 => f9_tested_12 v0 n h v1) x63.2 v0 ih false (11 : Int32)
          · refine v_sub (L' := [(0, .ref v0)]) [0] rfl ?_
            exact vl9_tested_49 hc hr hq hL (fun h v1 => f9_tested_12 v0 n h v1) x43.2 v0 ih
      · refine v_iconst (x := (0 : Int32)) hc dX9_tested_23 zi_0 ?_
        exact v_iret (v := bI false) hc hq rfl (nar_b false) (Nat.le_of_ble_eq_true rfl) (Nat.le_of_ble_eq_true rfl) rfl dX9_tested_24
def f9_tested (h : AH) (this : Nat) : Option (Bool × AH) := (hObj 9 h this).bind fun _ => (fS 9 24 h this (.int (0 : Int32))).bind fun h2 => (fS 9 21 h2 this (.int (0 : Int32))).bind fun h7 => f9_tested_12 this FU h7 true
theorem ob9_tested {h : AH} {this : Nat} {x : Bool × AH} (e : f9_tested h this = some x) : ∃ fs, hObj 9 h this = some fs := by
  unfold f9_tested at e
  obtain ⟨fs, h1, -⟩ := bd e
  exact ⟨fs, h1⟩
set_option maxRecDepth 100000 in
theorem ct9_tested (l : Launch) (D : va_G) (tys : Tys) (base : Nat) (h : AH) (this : Nat) : Ct l D tys base yX9_tested cX9_tested 3 (some .boolean) 8 175 0 0 [.ref this] h (wB) (f9_tested h this) := by
  refine Ct.intro (own := RX9) (L := [(0, .ref this)]) rfl (by decide) rfl (Nat.le_of_ble_eq_true rfl) fun κ hc hr hq hi hL => ?_
  have hn : ∀ i, i < 3 → i < κ.2.2.2.2.1 := fun i q => hL ▸ q
  unfold f9_tested
  refine v_obj ?_
  refine v_aload_n (i := 0) hc 0 rfl dX9_tested_0 rfl ?_
  refine v_iconst (x := (0 : Int32)) hc dX9_tested_1 zi_0 ?_
  refine v_put hc kX9 24 (by decide) w_1155 rfl rfl dX9_tested_2 ⟨rfl, rfl⟩ fun h2 => ?_
  refine v_aload_n (i := 0) hc 0 rfl dX9_tested_5 rfl ?_
  refine v_iconst (x := (0 : Int32)) hc dX9_tested_6 zi_0 ?_
  refine v_put hc kX9 21 (by decide) w_1152 rfl rfl dX9_tested_7 ⟨rfl, rfl⟩ fun h7 => ?_
  refine v_iconst (x := (1 : Int32)) hc dX9_tested_10 zi_1 ?_
  refine v_istore_n (i := 1) (L' := [(1, .int (1 : Int32)), (0, .ref this)]) hc dX9_tested_11 rfl (hn 1 (Nat.le_of_ble_eq_true rfl)) rfl ?_
  refine v_sub (L' := [(0, .ref this), (1, .int (bI true))]) [1, 0] rfl ?_
  exact vl9_tested_12 hc hr hq hL this FU h7 true
theorem s9_tested : YV yX9_tested RX9 cX9_tested 3 (some .boolean) 0 := ⟨w_1449, w_1448, w_79, w_118, rfl, by decide +kernel, by decide +kernel, by decide +kernel⟩
def f9_yes_110 (h : AH) (v0 : Nat) (v1 : Int32) : Option (Bool × AH) := (fR 9 5 h v0).bind fun x111 => (fR 9 4 h v0).bind fun x118 => (fI 9 19 h v0).bind fun x122 => (aI 0 h x118 x122).bind fun x125 => (sI 0 h x111 (v1 + (3 : Int32)) x125).bind fun h126 => (fR 9 6 h126 v0).bind fun x128 => (fI 9 19 h126 v0).bind fun x132 => (aI 0 h126 x128 x132).bind fun x136 => (sI 0 h126 x128 x132 (x136 + (1 : Int32))).bind fun h139 => some (true, h139)
set_option maxRecDepth 100000 in
theorem vl9_yes_110 {κ : Kx} (hc : CX κ RX9 cX9_yes) (hr : RX κ ({ frames := 9, cells := 0, slots := 0, locals := 197 } : Room)) (hq : QX κ (some .boolean) 0 0) (hL : 2 = κ.2.2.2.2.1) (h : AH) (v0 : Nat) (v1 : Int32) : V κ (wB) 0 0 110 [(0, .ref v0), (1, .int v1)] [] h (f9_yes_110 h v0 v1) := by
  have hn : ∀ i, i < 2 → i < κ.2.2.2.2.1 := fun i q => hL ▸ q
  unfold f9_yes_110
  refine v_aload_n (i := 0) hc 0 rfl dX9_yes_110 rfl ?_
  refine v_getV hc kX9 5 (by decide) w_1136 rfl dX9_yes_111 (gR rfl fun x111 => ?_)
  refine v_iload_n (i := 1) hc 1 rfl dX9_yes_114 rfl ?_
  refine v_iconst (x := (3 : Int32)) hc dX9_yes_115 zi_3 ?_
  refine v_iadd hc dX9_yes_116 ?_
  refine v_aload_n (i := 0) hc 0 rfl dX9_yes_117 rfl ?_
  refine v_getV hc kX9 4 (by decide) w_1135 rfl dX9_yes_118 (gR rfl fun x118 => ?_)
  refine v_aload_n (i := 0) hc 0 rfl dX9_yes_121 rfl ?_
  refine v_getV hc kX9 19 (by decide) w_1150 rfl dX9_yes_122 (gI rfl fun x122 => ?_)
  refine v_iald hc dX9_yes_125 fun x125 => ?_
  refine v_iast hc dX9_yes_126 fun h126 => ?_
  refine v_aload_n (i := 0) hc 0 rfl dX9_yes_127 rfl ?_
  refine v_getV hc kX9 6 (by decide) w_1137 rfl dX9_yes_128 (gR rfl fun x128 => ?_)
  refine v_aload_n (i := 0) hc 0 rfl dX9_yes_131 rfl ?_
  refine v_getV hc kX9 19 (by decide) w_1150 rfl dX9_yes_132 (gI rfl fun x132 => ?_)
  refine v_dup2 hc dX9_yes_135 rfl rfl ?_
  refine v_iald hc dX9_yes_136 fun x136 => ?_
  refine v_iconst (x := (1 : Int32)) hc dX9_yes_137 zi_1 ?_
  refine v_iadd hc dX9_yes_138 ?_
  refine v_iast hc dX9_yes_139 fun h139 => ?_
  refine v_iconst (x := (1 : Int32)) hc dX9_yes_140 zi_1 ?_
  exact v_iret (v := bI true) hc hq rfl (nar_b true) (Nat.le_of_ble_eq_true rfl) (Nat.le_of_ble_eq_true rfl) rfl dX9_yes_141
def f9_yes (h : AH) (this : Nat) : Option (Bool × AH) := (hObj 9 h this).bind fun _ => (f9_passWord h this).bind fun x1 => (fI 9 19 x1 this).bind fun x7 => (fR 9 6 x1 this).bind fun x13 => (fI 9 19 x1 this).bind fun x17 => (aI 0 x1 x13 x17).bind fun x20 => (some (((48 : Int32) * x7) + ((4 : Int32) * x20))).bind fun x23 => (fR 9 5 x1 this).bind fun x25 => (fR 9 4 x1 this).bind fun x30 => (fI 9 19 x1 this).bind fun x34 => (aI 0 x1 x30 x34).bind fun x37 => (sI 0 x1 x25 x23 x37).bind fun h38 => (f9_sum h38 this).bind fun x40 => (if x40.1 = true then (fR 9 5 x40.2 this).bind fun x49 => (fR 9 4 x40.2 this).bind fun x56 => (fI 9 19 x40.2 this).bind fun x60 => (aI 0 x40.2 x56 x60).bind fun x63 => (sI 0 x40.2 x49 (x23 + (1 : Int32)) x63).bind fun h64 => (fR 9 5 h64 this).bind fun x66 => (sI 0 h64 x66 (x23 + (2 : Int32)) (-1 : Int32)).bind fun h73 => (f9_takesWord h73 this (26982 : Int64)).bind fun x78 => (if x78.1 = true then (fR 9 5 x78.2 this).bind fun x85 => (fR 9 4 x78.2 this).bind fun x92 => (fI 9 19 x78.2 this).bind fun x96 => (aI 0 x78.2 x92 x96).bind fun x99 => (sI 0 x78.2 x85 (x23 + (2 : Int32)) x99).bind fun h100 => (f9_tested h100 this).bind fun x102 => (if x102.1 = true then f9_yes_110 x102.2 this x23 else some (false, x102.2)) else f9_yes_110 x78.2 this x23) else some (false, x40.2))
theorem ob9_yes {h : AH} {this : Nat} {x : Bool × AH} (e : f9_yes h this = some x) : ∃ fs, hObj 9 h this = some fs := by
  unfold f9_yes at e
  obtain ⟨fs, h1, -⟩ := bd e
  exact ⟨fs, h1⟩
set_option maxRecDepth 100000 in
theorem ct9_yes (l : Launch) (D : va_G) (tys : Tys) (base : Nat) (h : AH) (this : Nat) : Ct l D tys base yX9_yes cX9_yes 2 (some .boolean) 9 197 0 0 [.ref this] h (wB) (f9_yes h this) := by
  refine Ct.intro (own := RX9) (L := [(0, .ref this)]) rfl (by decide) rfl (Nat.le_of_ble_eq_true rfl) fun κ hc hr hq hi hL => ?_
  have hn : ∀ i, i < 2 → i < κ.2.2.2.2.1 := fun i q => hL ▸ q
  unfold f9_yes
  refine v_obj ?_
  refine v_aload_n (i := 0) hc 0 rfl dX9_yes_0 rfl ?_
  refine v_cV hc (m_V' (As := []) (b := this) (rest := []) 0 hc hr (fun l D tys base => ct9_passWord l D tys base h this) (fun x hx => ob9_passWord hx) rfl s9_passWord w_1394 rfl ⟨Nat.le_of_ble_eq_true rfl, Nat.le_of_ble_eq_true rfl⟩ ⟨Nat.le_of_ble_eq_true rfl, Nat.le_of_ble_eq_true rfl⟩ (Nat.le_of_ble_eq_true rfl) dX9_yes_1) fun x1 => ?_
  refine v_bipush (x := (48 : Int32)) hc dX9_yes_4 zb_48 ?_
  refine v_aload_n (i := 0) hc 0 rfl dX9_yes_6 rfl ?_
  refine v_getV hc kX9 19 (by decide) w_1150 rfl dX9_yes_7 (gI rfl fun x7 => ?_)
  refine v_imul hc dX9_yes_10 ?_
  refine v_iconst (x := (4 : Int32)) hc dX9_yes_11 zi_4 ?_
  refine v_aload_n (i := 0) hc 0 rfl dX9_yes_12 rfl ?_
  refine v_getV hc kX9 6 (by decide) w_1137 rfl dX9_yes_13 (gR rfl fun x13 => ?_)
  refine v_aload_n (i := 0) hc 0 rfl dX9_yes_16 rfl ?_
  refine v_getV hc kX9 19 (by decide) w_1150 rfl dX9_yes_17 (gI rfl fun x17 => ?_)
  refine v_iald hc dX9_yes_20 fun x20 => ?_
  refine v_imul hc dX9_yes_21 ?_
  refine v_iadd hc dX9_yes_22 ?_
  refine v_nmI fun x23 => ?_
  refine v_istore_n (i := 1) (L' := [(1, .int x23), (0, .ref this)]) hc dX9_yes_23 rfl (hn 1 (Nat.le_of_ble_eq_true rfl)) rfl ?_
  refine v_aload_n (i := 0) hc 1 rfl dX9_yes_24 rfl ?_
  refine v_getV hc kX9 5 (by decide) w_1136 rfl dX9_yes_25 (gR rfl fun x25 => ?_)
  refine v_iload_n (i := 1) hc 0 rfl dX9_yes_28 rfl ?_
  refine v_aload_n (i := 0) hc 1 rfl dX9_yes_29 rfl ?_
  refine v_getV hc kX9 4 (by decide) w_1135 rfl dX9_yes_30 (gR rfl fun x30 => ?_)
  refine v_aload_n (i := 0) hc 1 rfl dX9_yes_33 rfl ?_
  refine v_getV hc kX9 19 (by decide) w_1150 rfl dX9_yes_34 (gI rfl fun x34 => ?_)
  refine v_iald hc dX9_yes_37 fun x37 => ?_
  refine v_iast hc dX9_yes_38 fun h38 => ?_
  refine v_aload_n (i := 0) hc 1 rfl dX9_yes_39 rfl ?_
  refine v_cwB hc (m_V' (As := []) (b := this) (rest := []) 0 hc hr (fun l D tys base => ct9_sum l D tys base h38 this) (fun x hx => ob9_sum hx) rfl s9_sum w_1398 rfl ⟨Nat.le_of_ble_eq_true rfl, Nat.le_of_ble_eq_true rfl⟩ ⟨Nat.le_of_ble_eq_true rfl, Nat.le_of_ble_eq_true rfl⟩ (Nat.le_of_ble_eq_true rfl) dX9_yes_40) fun x40 => ?_
  refine v_ifb_ne hc 48 dX9_yes_43 rfl ?_ ?_
  · refine v_aload_n (i := 0) hc 1 rfl dX9_yes_48 rfl ?_
    refine v_getV hc kX9 5 (by decide) w_1136 rfl dX9_yes_49 (gR rfl fun x49 => ?_)
    refine v_iload_n (i := 1) hc 0 rfl dX9_yes_52 rfl ?_
    refine v_iconst (x := (1 : Int32)) hc dX9_yes_53 zi_1 ?_
    refine v_iadd hc dX9_yes_54 ?_
    refine v_aload_n (i := 0) hc 1 rfl dX9_yes_55 rfl ?_
    refine v_getV hc kX9 4 (by decide) w_1135 rfl dX9_yes_56 (gR rfl fun x56 => ?_)
    refine v_aload_n (i := 0) hc 1 rfl dX9_yes_59 rfl ?_
    refine v_getV hc kX9 19 (by decide) w_1150 rfl dX9_yes_60 (gI rfl fun x60 => ?_)
    refine v_iald hc dX9_yes_63 fun x63 => ?_
    refine v_iast hc dX9_yes_64 fun h64 => ?_
    refine v_aload_n (i := 0) hc 1 rfl dX9_yes_65 rfl ?_
    refine v_getV hc kX9 5 (by decide) w_1136 rfl dX9_yes_66 (gR rfl fun x66 => ?_)
    refine v_iload_n (i := 1) hc 0 rfl dX9_yes_69 rfl ?_
    refine v_iconst (x := (2 : Int32)) hc dX9_yes_70 zi_2 ?_
    refine v_iadd hc dX9_yes_71 ?_
    refine v_iconst (x := (-1 : Int32)) hc dX9_yes_72 zi_m1 ?_
    refine v_iast hc dX9_yes_73 fun h73 => ?_
    refine v_aload_n (i := 0) hc 1 rfl dX9_yes_74 rfl ?_
    refine v_ldc2 (x := (26982 : Int64)) hc w_1441 dX9_yes_75 ?_
    refine v_cwB hc (m_V' (As := [.long (26982 : Int64)]) (b := this) (rest := []) 1 hc hr (fun l D tys base => ct9_takesWord l D tys base h73 this (26982 : Int64)) (fun x hx => ob9_takesWord hx) rfl s9_takesWord w_1442 rfl ⟨Nat.le_of_ble_eq_true rfl, Nat.le_of_ble_eq_true rfl⟩ ⟨Nat.le_of_ble_eq_true rfl, Nat.le_of_ble_eq_true rfl⟩ (Nat.le_of_ble_eq_true rfl) dX9_yes_78) fun x78 => ?_
    refine v_ifb_eq hc 110 dX9_yes_81 rfl ?_ ?_
    · refine v_sub (L' := [(0, .ref this), (1, .int x23)]) [1, 0] rfl ?_
      exact vl9_yes_110 hc hr hq hL x78.2 this x23
    · refine v_aload_n (i := 0) hc 1 rfl dX9_yes_84 rfl ?_
      refine v_getV hc kX9 5 (by decide) w_1136 rfl dX9_yes_85 (gR rfl fun x85 => ?_)
      refine v_iload_n (i := 1) hc 0 rfl dX9_yes_88 rfl ?_
      refine v_iconst (x := (2 : Int32)) hc dX9_yes_89 zi_2 ?_
      refine v_iadd hc dX9_yes_90 ?_
      refine v_aload_n (i := 0) hc 1 rfl dX9_yes_91 rfl ?_
      refine v_getV hc kX9 4 (by decide) w_1135 rfl dX9_yes_92 (gR rfl fun x92 => ?_)
      refine v_aload_n (i := 0) hc 1 rfl dX9_yes_95 rfl ?_
      refine v_getV hc kX9 19 (by decide) w_1150 rfl dX9_yes_96 (gI rfl fun x96 => ?_)
      refine v_iald hc dX9_yes_99 fun x99 => ?_
      refine v_iast hc dX9_yes_100 fun h100 => ?_
      refine v_aload_n (i := 0) hc 1 rfl dX9_yes_101 rfl ?_
      refine v_cwB hc (m_V' (As := []) (b := this) (rest := []) 0 hc hr (fun l D tys base => ct9_tested l D tys base h100 this) (fun x hx => ob9_tested hx) rfl s9_tested w_1446 rfl ⟨Nat.le_of_ble_eq_true rfl, Nat.le_of_ble_eq_true rfl⟩ ⟨Nat.le_of_ble_eq_true rfl, Nat.le_of_ble_eq_true rfl⟩ (Nat.le_of_ble_eq_true rfl) dX9_yes_102) fun x102 => ?_
      refine v_ifb_ne hc 110 dX9_yes_105 rfl ?_ ?_
      · refine v_sub (L' := [(0, .ref this), (1, .int x23)]) [1, 0] rfl ?_
        exact vl9_yes_110 hc hr hq hL x102.2 this x23
      · refine v_iconst (x := (0 : Int32)) hc dX9_yes_108 zi_0 ?_
        exact v_iret (v := bI false) hc hq rfl (nar_b false) (Nat.le_of_ble_eq_true rfl) (Nat.le_of_ble_eq_true rfl) rfl dX9_yes_109
  · refine v_iconst (x := (0 : Int32)) hc dX9_yes_46 zi_0 ?_
    exact v_iret (v := bI false) hc hq rfl (nar_b false) (Nat.le_of_ble_eq_true rfl) (Nat.le_of_ble_eq_true rfl) rfl dX9_yes_47
theorem s9_yes : YV yX9_yes RX9 cX9_yes 2 (some .boolean) 0 := ⟨w_1393, w_1392, w_68, w_118, rfl, by decide +kernel, by decide +kernel, by decide +kernel⟩
def f9_sets (h : AH) (this : Nat) (p0 : Nat) (p1 : Int32) (p2 : Int32) (p3 : Int32) : Option (Bool × AH) := (hObj 9 h this).bind fun _ => (fI 9 19 h this).bind fun x2 => (aI 0 h p0 x2).bind fun x5 => (if x5 < 0 then (f9_passWord h this).bind fun x18 => (f9_number x18 this p1 p2).bind fun x24 => (if x24.1 = true then (fI 9 19 x24.2 this).bind fun x34 => (fI 9 18 x24.2 this).bind fun x38 => (sI 0 x24.2 p0 x34 x38).bind fun h41 => some (true, h41) else some (false, x24.2)) else (f9_fails h this (4 : Int32) p3).bind fun x13 => some (x13.1, x13.2))
theorem ob9_sets {h : AH} {this : Nat} {p0 : Nat} {p1 : Int32} {p2 : Int32} {p3 : Int32} {x : Bool × AH} (e : f9_sets h this p0 p1 p2 p3 = some x) : ∃ fs, hObj 9 h this = some fs := by
  unfold f9_sets at e
  obtain ⟨fs, h1, -⟩ := bd e
  exact ⟨fs, h1⟩
set_option maxRecDepth 100000 in
theorem ct9_sets (l : Launch) (D : va_G) (tys : Tys) (base : Nat) (h : AH) (this : Nat) (p0 : Nat) (p1 : Int32) (p2 : Int32) (p3 : Int32) : Ct l D tys base yX9_sets cX9_sets 5 (some .boolean) 2 49 0 0 [.ref this, .ref p0, .int p1, .int p2, .int p3] h (wB) (f9_sets h this p0 p1 p2 p3) := by
  refine Ct.intro (own := RX9) (L := [(0, .ref this), (1, .ref p0), (2, .int p1), (3, .int p2), (4, .int p3)]) rfl (by decide) rfl (Nat.le_of_ble_eq_true rfl) fun κ hc hr hq hi hL => ?_
  have hn : ∀ i, i < 5 → i < κ.2.2.2.2.1 := fun i q => hL ▸ q
  unfold f9_sets
  refine v_obj ?_
  refine v_aload_n (i := 1) hc 1 rfl dX9_sets_0 rfl ?_
  refine v_aload_n (i := 0) hc 0 rfl dX9_sets_1 rfl ?_
  refine v_getV hc kX9 19 (by decide) w_1150 rfl dX9_sets_2 (gI rfl fun x2 => ?_)
  refine v_iald hc dX9_sets_5 fun x5 => ?_
  refine v_if_lt hc 17 dX9_sets_6 rfl ?_ ?_
  · refine v_aload_n (i := 0) hc 0 rfl dX9_sets_17 rfl ?_
    refine v_cV hc (m_V' (As := []) (b := this) (rest := []) 0 hc hr (fun l D tys base => ct9_passWord l D tys base h this) (fun x hx => ob9_passWord hx) rfl s9_passWord w_1394 rfl ⟨Nat.le_of_ble_eq_true rfl, Nat.le_of_ble_eq_true rfl⟩ ⟨Nat.le_of_ble_eq_true rfl, Nat.le_of_ble_eq_true rfl⟩ (Nat.le_of_ble_eq_true rfl) dX9_sets_18) fun x18 => ?_
    refine v_aload_n (i := 0) hc 0 rfl dX9_sets_21 rfl ?_
    refine v_iload_n (i := 2) hc 2 rfl dX9_sets_22 rfl ?_
    refine v_iload_n (i := 3) hc 3 rfl dX9_sets_23 rfl ?_
    refine v_cwB hc (m_V' (As := [.int p1, .int p2]) (b := this) (rest := []) 2 hc hr (fun l D tys base => ct9_number l D tys base x18 this p1 p2) (fun x hx => ob9_number hx) rfl s9_number w_1415 rfl ⟨Nat.le_of_ble_eq_true rfl, Nat.le_of_ble_eq_true rfl⟩ ⟨Nat.le_of_ble_eq_true rfl, Nat.le_of_ble_eq_true rfl⟩ (Nat.le_of_ble_eq_true rfl) dX9_sets_24) fun x24 => ?_
    refine v_ifb_ne hc 32 dX9_sets_27 rfl ?_ ?_
    · refine v_aload_n (i := 1) hc 1 rfl dX9_sets_32 rfl ?_
      refine v_aload_n (i := 0) hc 0 rfl dX9_sets_33 rfl ?_
      refine v_getV hc kX9 19 (by decide) w_1150 rfl dX9_sets_34 (gI rfl fun x34 => ?_)
      refine v_aload_n (i := 0) hc 0 rfl dX9_sets_37 rfl ?_
      refine v_getV hc kX9 18 (by decide) w_1149 rfl dX9_sets_38 (gI rfl fun x38 => ?_)
      refine v_iast hc dX9_sets_41 fun h41 => ?_
      refine v_iconst (x := (1 : Int32)) hc dX9_sets_42 zi_1 ?_
      exact v_iret (v := bI true) hc hq rfl (nar_b true) (Nat.le_of_ble_eq_true rfl) (Nat.le_of_ble_eq_true rfl) rfl dX9_sets_43
    · refine v_iconst (x := (0 : Int32)) hc dX9_sets_30 zi_0 ?_
      exact v_iret (v := bI false) hc hq rfl (nar_b false) (Nat.le_of_ble_eq_true rfl) (Nat.le_of_ble_eq_true rfl) rfl dX9_sets_31
  · refine v_aload_n (i := 0) hc 0 rfl dX9_sets_9 rfl ?_
    refine v_iconst (x := (4 : Int32)) hc dX9_sets_10 zi_4 ?_
    refine v_iload (i := 4) hc 4 rfl dX9_sets_11 ?_
    refine v_cwB hc (m_V' (As := [.int (4 : Int32), .int p3]) (b := this) (rest := []) 2 hc hr (fun l D tys base => ct9_fails l D tys base h this (4 : Int32) p3) (fun x hx => ob9_fails hx) rfl s9_fails w_1386 rfl ⟨Nat.le_of_ble_eq_true rfl, Nat.le_of_ble_eq_true rfl⟩ ⟨Nat.le_of_ble_eq_true rfl, Nat.le_of_ble_eq_true rfl⟩ (Nat.le_of_ble_eq_true rfl) dX9_sets_13) fun x13 => ?_
    exact v_iret (v := bI x13.1) hc hq rfl (nar_b x13.1) (Nat.le_of_ble_eq_true rfl) (Nat.le_of_ble_eq_true rfl) rfl dX9_sets_16
theorem s9_sets : YV yX9_sets RX9 cX9_sets 5 (some .boolean) 4 := ⟨w_1483, w_1482, w_86, w_118, rfl, by decide +kernel, by decide +kernel, by decide +kernel⟩
def f9_sourced (h : AH) (this : Nat) : Option (Bool × AH) := (hObj 9 h this).bind fun _ => (f9_passWord h this).bind fun x1 => (f9_number x1 this (0 : Int32) (5 : Int32)).bind fun x7 => (if x7.1 = true then (fR 9 11 x7.2 this).bind fun x16 => (fI 9 19 x7.2 this).bind fun x22 => (fR 9 12 x7.2 this).bind fun x27 => (fI 9 19 x7.2 this).bind fun x31 => (aI 0 x7.2 x27 x31).bind fun x34 => (fI 9 18 x7.2 this).bind fun x37 => (sI 0 x7.2 x16 (((12 : Int32) * x22) + x34) x37).bind fun h40 => (fR 9 12 h40 this).bind fun x42 => (fI 9 19 h40 this).bind fun x46 => (aI 0 h40 x42 x46).bind fun x50 => (sI 0 h40 x42 x46 (x50 + (1 : Int32))).bind fun h53 => some (true, h53) else some (false, x7.2))
theorem ob9_sourced {h : AH} {this : Nat} {x : Bool × AH} (e : f9_sourced h this = some x) : ∃ fs, hObj 9 h this = some fs := by
  unfold f9_sourced at e
  obtain ⟨fs, h1, -⟩ := bd e
  exact ⟨fs, h1⟩
set_option maxRecDepth 100000 in
theorem ct9_sourced (l : Launch) (D : va_G) (tys : Tys) (base : Nat) (h : AH) (this : Nat) : Ct l D tys base yX9_sourced cX9_sourced 1 (some .boolean) 2 49 0 0 [.ref this] h (wB) (f9_sourced h this) := by
  refine Ct.intro (own := RX9) (L := [(0, .ref this)]) rfl (by decide) rfl (Nat.le_of_ble_eq_true rfl) fun κ hc hr hq hi hL => ?_
  have hn : ∀ i, i < 1 → i < κ.2.2.2.2.1 := fun i q => hL ▸ q
  unfold f9_sourced
  refine v_obj ?_
  refine v_aload_n (i := 0) hc 0 rfl dX9_sourced_0 rfl ?_
  refine v_cV hc (m_V' (As := []) (b := this) (rest := []) 0 hc hr (fun l D tys base => ct9_passWord l D tys base h this) (fun x hx => ob9_passWord hx) rfl s9_passWord w_1394 rfl ⟨Nat.le_of_ble_eq_true rfl, Nat.le_of_ble_eq_true rfl⟩ ⟨Nat.le_of_ble_eq_true rfl, Nat.le_of_ble_eq_true rfl⟩ (Nat.le_of_ble_eq_true rfl) dX9_sourced_1) fun x1 => ?_
  refine v_aload_n (i := 0) hc 0 rfl dX9_sourced_4 rfl ?_
  refine v_iconst (x := (0 : Int32)) hc dX9_sourced_5 zi_0 ?_
  refine v_iconst (x := (5 : Int32)) hc dX9_sourced_6 zi_5 ?_
  refine v_cwB hc (m_V' (As := [.int (0 : Int32), .int (5 : Int32)]) (b := this) (rest := []) 2 hc hr (fun l D tys base => ct9_number l D tys base x1 this (0 : Int32) (5 : Int32)) (fun x hx => ob9_number hx) rfl s9_number w_1415 rfl ⟨Nat.le_of_ble_eq_true rfl, Nat.le_of_ble_eq_true rfl⟩ ⟨Nat.le_of_ble_eq_true rfl, Nat.le_of_ble_eq_true rfl⟩ (Nat.le_of_ble_eq_true rfl) dX9_sourced_7) fun x7 => ?_
  refine v_ifb_ne hc 15 dX9_sourced_10 rfl ?_ ?_
  · refine v_aload_n (i := 0) hc 0 rfl dX9_sourced_15 rfl ?_
    refine v_getV hc kX9 11 (by decide) w_1142 rfl dX9_sourced_16 (gR rfl fun x16 => ?_)
    refine v_bipush (x := (12 : Int32)) hc dX9_sourced_19 zb_12 ?_
    refine v_aload_n (i := 0) hc 0 rfl dX9_sourced_21 rfl ?_
    refine v_getV hc kX9 19 (by decide) w_1150 rfl dX9_sourced_22 (gI rfl fun x22 => ?_)
    refine v_imul hc dX9_sourced_25 ?_
    refine v_aload_n (i := 0) hc 0 rfl dX9_sourced_26 rfl ?_
    refine v_getV hc kX9 12 (by decide) w_1143 rfl dX9_sourced_27 (gR rfl fun x27 => ?_)
    refine v_aload_n (i := 0) hc 0 rfl dX9_sourced_30 rfl ?_
    refine v_getV hc kX9 19 (by decide) w_1150 rfl dX9_sourced_31 (gI rfl fun x31 => ?_)
    refine v_iald hc dX9_sourced_34 fun x34 => ?_
    refine v_iadd hc dX9_sourced_35 ?_
    refine v_aload_n (i := 0) hc 0 rfl dX9_sourced_36 rfl ?_
    refine v_getV hc kX9 18 (by decide) w_1149 rfl dX9_sourced_37 (gI rfl fun x37 => ?_)
    refine v_iast hc dX9_sourced_40 fun h40 => ?_
    refine v_aload_n (i := 0) hc 0 rfl dX9_sourced_41 rfl ?_
    refine v_getV hc kX9 12 (by decide) w_1143 rfl dX9_sourced_42 (gR rfl fun x42 => ?_)
    refine v_aload_n (i := 0) hc 0 rfl dX9_sourced_45 rfl ?_
    refine v_getV hc kX9 19 (by decide) w_1150 rfl dX9_sourced_46 (gI rfl fun x46 => ?_)
    refine v_dup2 hc dX9_sourced_49 rfl rfl ?_
    refine v_iald hc dX9_sourced_50 fun x50 => ?_
    refine v_iconst (x := (1 : Int32)) hc dX9_sourced_51 zi_1 ?_
    refine v_iadd hc dX9_sourced_52 ?_
    refine v_iast hc dX9_sourced_53 fun h53 => ?_
    refine v_iconst (x := (1 : Int32)) hc dX9_sourced_54 zi_1 ?_
    exact v_iret (v := bI true) hc hq rfl (nar_b true) (Nat.le_of_ble_eq_true rfl) (Nat.le_of_ble_eq_true rfl) rfl dX9_sourced_55
  · refine v_iconst (x := (0 : Int32)) hc dX9_sourced_13 zi_0 ?_
    exact v_iret (v := bI false) hc hq rfl (nar_b false) (Nat.le_of_ble_eq_true rfl) (Nat.le_of_ble_eq_true rfl) rfl dX9_sourced_14
theorem s9_sourced : YV yX9_sourced RX9 cX9_sourced 1 (some .boolean) 0 := ⟨w_1487, w_1486, w_87, w_118, rfl, by decide +kernel, by decide +kernel, by decide +kernel⟩
def f9_stuffed (h : AH) (this : Nat) : Option (Bool × AH) := (hObj 9 h this).bind fun _ => (f9_passWord h this).bind fun x1 => (f9_number x1 this (0 : Int32) (9 : Int32)).bind fun x8 => (if x8.1 = true then (fR 9 13 x8.2 this).bind fun x17 => (fI 9 19 x8.2 this).bind fun x21 => (aI 0 x8.2 x17 x21).bind fun x25 => (fI 9 18 x8.2 this).bind fun x28 => (sI 0 x8.2 x17 x21 (x25 ||| ((1 : Int32) <<< (x28 &&& 31)))).bind fun h33 => some (true, h33) else some (false, x8.2))
theorem ob9_stuffed {h : AH} {this : Nat} {x : Bool × AH} (e : f9_stuffed h this = some x) : ∃ fs, hObj 9 h this = some fs := by
  unfold f9_stuffed at e
  obtain ⟨fs, h1, -⟩ := bd e
  exact ⟨fs, h1⟩
set_option maxRecDepth 100000 in
theorem ct9_stuffed (l : Launch) (D : va_G) (tys : Tys) (base : Nat) (h : AH) (this : Nat) : Ct l D tys base yX9_stuffed cX9_stuffed 1 (some .boolean) 2 49 0 0 [.ref this] h (wB) (f9_stuffed h this) := by
  refine Ct.intro (own := RX9) (L := [(0, .ref this)]) rfl (by decide) rfl (Nat.le_of_ble_eq_true rfl) fun κ hc hr hq hi hL => ?_
  have hn : ∀ i, i < 1 → i < κ.2.2.2.2.1 := fun i q => hL ▸ q
  unfold f9_stuffed
  refine v_obj ?_
  refine v_aload_n (i := 0) hc 0 rfl dX9_stuffed_0 rfl ?_
  refine v_cV hc (m_V' (As := []) (b := this) (rest := []) 0 hc hr (fun l D tys base => ct9_passWord l D tys base h this) (fun x hx => ob9_passWord hx) rfl s9_passWord w_1394 rfl ⟨Nat.le_of_ble_eq_true rfl, Nat.le_of_ble_eq_true rfl⟩ ⟨Nat.le_of_ble_eq_true rfl, Nat.le_of_ble_eq_true rfl⟩ (Nat.le_of_ble_eq_true rfl) dX9_stuffed_1) fun x1 => ?_
  refine v_aload_n (i := 0) hc 0 rfl dX9_stuffed_4 rfl ?_
  refine v_iconst (x := (0 : Int32)) hc dX9_stuffed_5 zi_0 ?_
  refine v_bipush (x := (9 : Int32)) hc dX9_stuffed_6 zb_9 ?_
  refine v_cwB hc (m_V' (As := [.int (0 : Int32), .int (9 : Int32)]) (b := this) (rest := []) 2 hc hr (fun l D tys base => ct9_number l D tys base x1 this (0 : Int32) (9 : Int32)) (fun x hx => ob9_number hx) rfl s9_number w_1415 rfl ⟨Nat.le_of_ble_eq_true rfl, Nat.le_of_ble_eq_true rfl⟩ ⟨Nat.le_of_ble_eq_true rfl, Nat.le_of_ble_eq_true rfl⟩ (Nat.le_of_ble_eq_true rfl) dX9_stuffed_8) fun x8 => ?_
  refine v_ifb_ne hc 16 dX9_stuffed_11 rfl ?_ ?_
  · refine v_aload_n (i := 0) hc 0 rfl dX9_stuffed_16 rfl ?_
    refine v_getV hc kX9 13 (by decide) w_1144 rfl dX9_stuffed_17 (gR rfl fun x17 => ?_)
    refine v_aload_n (i := 0) hc 0 rfl dX9_stuffed_20 rfl ?_
    refine v_getV hc kX9 19 (by decide) w_1150 rfl dX9_stuffed_21 (gI rfl fun x21 => ?_)
    refine v_dup2 hc dX9_stuffed_24 rfl rfl ?_
    refine v_iald hc dX9_stuffed_25 fun x25 => ?_
    refine v_iconst (x := (1 : Int32)) hc dX9_stuffed_26 zi_1 ?_
    refine v_aload_n (i := 0) hc 0 rfl dX9_stuffed_27 rfl ?_
    refine v_getV hc kX9 18 (by decide) w_1149 rfl dX9_stuffed_28 (gI rfl fun x28 => ?_)
    refine v_ishl hc dX9_stuffed_31 ?_
    refine v_ior hc dX9_stuffed_32 ?_
    refine v_iast hc dX9_stuffed_33 fun h33 => ?_
    refine v_iconst (x := (1 : Int32)) hc dX9_stuffed_34 zi_1 ?_
    exact v_iret (v := bI true) hc hq rfl (nar_b true) (Nat.le_of_ble_eq_true rfl) (Nat.le_of_ble_eq_true rfl) rfl dX9_stuffed_35
  · refine v_iconst (x := (0 : Int32)) hc dX9_stuffed_14 zi_0 ?_
    exact v_iret (v := bI false) hc hq rfl (nar_b false) (Nat.le_of_ble_eq_true rfl) (Nat.le_of_ble_eq_true rfl) rfl dX9_stuffed_15
theorem s9_stuffed : YV yX9_stuffed RX9 cX9_stuffed 1 (some .boolean) 0 := ⟨w_1491, w_1490, w_88, w_118, rfl, by decide +kernel, by decide +kernel, by decide +kernel⟩
def f9_clauseHere_112 (h : AH) (v0 : Nat) (v1 : Int32) (s0 : Bool) : Option (Bool × AH) := (if s0 = true then (fI 9 22 h v0).bind fun x125 => (if x125 = (12 : Int32) then (f9_fails h v0 (4 : Int32) v1).bind fun x136 => some (x136.1, x136.2) else (fI 9 22 h v0).bind fun x142 => (fS 9 22 h v0 (.int (x142 + (1 : Int32)))).bind fun h147 => (f9_isWord h147 v0 (7955827 : Int64)).bind fun x154 => (if x154.1 = true then (f9_yes x154.2 v0).bind fun x161 => some (x161.1, x161.2) else (f9_isWord x154.2 v0 (499850634611 : Int64)).bind fun x169 => (if x169.1 = true then (fR 9 7 x169.2 v0).bind fun x177 => (f9_sets x169.2 v0 x177 (1 : Int32) (99 : Int32) v1).bind fun x184 => some (x184.1, x184.2) else (f9_isWord x169.2 v0 (427070942835 : Int64)).bind fun x192 => (if x192.1 = true then (fR 9 8 x192.2 v0).bind fun x200 => (f9_sets x192.2 v0 x200 (1 : Int32) (999 : Int32) v1).bind fun x208 => some (x208.1, x208.2) else (f9_isWord x192.2 v0 (1885430629 : Int64)).bind fun x216 => (if x216.1 = true then (fR 9 9 x216.2 v0).bind fun x224 => (f9_sets x216.2 v0 x224 (1 : Int32) (99 : Int32) v1).bind fun x231 => some (x231.1, x231.2) else (f9_isWord x216.2 v0 (495740088435 : Int64)).bind fun x239 => (if x239.1 = true then (fR 9 10 x239.2 v0).bind fun x247 => (f9_sets x239.2 v0 x247 (0 : Int32) (1000 : Int32) v1).bind fun x255 => some (x255.1, x255.2) else (f9_isWord x239.2 v0 (1718775661 : Int64)).bind fun x263 => (if x263.1 = true then (f9_sourced x263.2 v0).bind fun x270 => some (x270.1, x270.2) else (f9_stuffed x263.2 v0).bind fun x277 => some (x277.1, x277.2)))))))) else (f9_fails h v0 (0 : Int32) v1).bind fun x120 => some (x120.1, x120.2))
set_option maxRecDepth 100000 in
theorem vl9_clauseHere_112 {κ : Kx} (hc : CX κ RX9 cX9_clauseHere) (hr : RX κ ({ frames := 10, cells := 0, slots := 0, locals := 218 } : Room)) (hq : QX κ (some .boolean) 0 0) (hL : 4 = κ.2.2.2.2.1) (h : AH) (v0 : Nat) (v1 : Int32) (s0 : Bool) : V κ (wB) 0 0 112 [(0, .ref v0), (1, .int v1)] [.int (bI s0)] h (f9_clauseHere_112 h v0 v1 s0) := by
  have hn : ∀ i, i < 4 → i < κ.2.2.2.2.1 := fun i q => hL ▸ q
  unfold f9_clauseHere_112
  refine v_istore_n (i := 3) (L' := [(3, .int (bI s0)), (0, .ref v0), (1, .int v1)]) hc dX9_clauseHere_112 rfl (hn 3 (Nat.le_of_ble_eq_true rfl)) rfl ?_
  refine v_iload_n (i := 3) hc 0 rfl dX9_clauseHere_113 rfl ?_
  refine v_ifb_ne hc 124 dX9_clauseHere_114 rfl ?_ ?_
  · refine v_aload_n (i := 0) hc 1 rfl dX9_clauseHere_124 rfl ?_
    refine v_getV hc kX9 22 (by decide) w_1153 rfl dX9_clauseHere_125 (gI rfl fun x125 => ?_)
    refine v_bipush (x := (12 : Int32)) hc dX9_clauseHere_128 zb_12 ?_
    refine v_icmp_ne hc 140 dX9_clauseHere_130 rfl ?_ ?_
    · refine v_aload_n (i := 0) hc 1 rfl dX9_clauseHere_140 rfl ?_
      refine v_dup hc dX9_clauseHere_141 rfl ?_
      refine v_getV hc kX9 22 (by decide) w_1153 rfl dX9_clauseHere_142 (gI rfl fun x142 => ?_)
      refine v_iconst (x := (1 : Int32)) hc dX9_clauseHere_145 zi_1 ?_
      refine v_iadd hc dX9_clauseHere_146 ?_
      refine v_put hc kX9 22 (by decide) w_1153 rfl rfl dX9_clauseHere_147 ⟨rfl, rfl⟩ fun h147 => ?_
      refine v_aload_n (i := 0) hc 1 rfl dX9_clauseHere_150 rfl ?_
      refine v_ldc2 (x := (7955827 : Int64)) hc w_1371 dX9_clauseHere_151 ?_
      refine v_cwB hc (m_V' (As := [.long (7955827 : Int64)]) (b := v0) (rest := []) 1 hc hr (fun l D tys base => ct9_isWord l D tys base h147 v0 (7955827 : Int64)) (fun x hx => ob9_isWord hx) rfl s9_isWord w_1372 rfl ⟨Nat.le_of_ble_eq_true rfl, Nat.le_of_ble_eq_true rfl⟩ ⟨Nat.le_of_ble_eq_true rfl, Nat.le_of_ble_eq_true rfl⟩ (Nat.le_of_ble_eq_true rfl) dX9_clauseHere_154) fun x154 => ?_
      refine v_ifb_eq hc 165 dX9_clauseHere_157 rfl ?_ ?_
      · refine v_aload_n (i := 0) hc 1 rfl dX9_clauseHere_165 rfl ?_
        refine v_ldc2 (x := (499850634611 : Int64)) hc w_1380 dX9_clauseHere_166 ?_
        refine v_cwB hc (m_V' (As := [.long (499850634611 : Int64)]) (b := v0) (rest := []) 1 hc hr (fun l D tys base => ct9_isWord l D tys base x154.2 v0 (499850634611 : Int64)) (fun x hx => ob9_isWord hx) rfl s9_isWord w_1372 rfl ⟨Nat.le_of_ble_eq_true rfl, Nat.le_of_ble_eq_true rfl⟩ ⟨Nat.le_of_ble_eq_true rfl, Nat.le_of_ble_eq_true rfl⟩ (Nat.le_of_ble_eq_true rfl) dX9_clauseHere_169) fun x169 => ?_
        refine v_ifb_eq hc 188 dX9_clauseHere_172 rfl ?_ ?_
        · refine v_aload_n (i := 0) hc 1 rfl dX9_clauseHere_188 rfl ?_
          refine v_ldc2 (x := (427070942835 : Int64)) hc w_1381 dX9_clauseHere_189 ?_
          refine v_cwB hc (m_V' (As := [.long (427070942835 : Int64)]) (b := v0) (rest := []) 1 hc hr (fun l D tys base => ct9_isWord l D tys base x169.2 v0 (427070942835 : Int64)) (fun x hx => ob9_isWord hx) rfl s9_isWord w_1372 rfl ⟨Nat.le_of_ble_eq_true rfl, Nat.le_of_ble_eq_true rfl⟩ ⟨Nat.le_of_ble_eq_true rfl, Nat.le_of_ble_eq_true rfl⟩ (Nat.le_of_ble_eq_true rfl) dX9_clauseHere_192) fun x192 => ?_
          refine v_ifb_eq hc 212 dX9_clauseHere_195 rfl ?_ ?_
          · refine v_aload_n (i := 0) hc 1 rfl dX9_clauseHere_212 rfl ?_
            refine v_ldc2 (x := (1885430629 : Int64)) hc w_1382 dX9_clauseHere_213 ?_
            refine v_cwB hc (m_V' (As := [.long (1885430629 : Int64)]) (b := v0) (rest := []) 1 hc hr (fun l D tys base => ct9_isWord l D tys base x192.2 v0 (1885430629 : Int64)) (fun x hx => ob9_isWord hx) rfl s9_isWord w_1372 rfl ⟨Nat.le_of_ble_eq_true rfl, Nat.le_of_ble_eq_true rfl⟩ ⟨Nat.le_of_ble_eq_true rfl, Nat.le_of_ble_eq_true rfl⟩ (Nat.le_of_ble_eq_true rfl) dX9_clauseHere_216) fun x216 => ?_
            refine v_ifb_eq hc 235 dX9_clauseHere_219 rfl ?_ ?_
            · refine v_aload_n (i := 0) hc 1 rfl dX9_clauseHere_235 rfl ?_
              refine v_ldc2 (x := (495740088435 : Int64)) hc w_1383 dX9_clauseHere_236 ?_
              refine v_cwB hc (m_V' (As := [.long (495740088435 : Int64)]) (b := v0) (rest := []) 1 hc hr (fun l D tys base => ct9_isWord l D tys base x216.2 v0 (495740088435 : Int64)) (fun x hx => ob9_isWord hx) rfl s9_isWord w_1372 rfl ⟨Nat.le_of_ble_eq_true rfl, Nat.le_of_ble_eq_true rfl⟩ ⟨Nat.le_of_ble_eq_true rfl, Nat.le_of_ble_eq_true rfl⟩ (Nat.le_of_ble_eq_true rfl) dX9_clauseHere_239) fun x239 => ?_
              refine v_ifb_eq hc 259 dX9_clauseHere_242 rfl ?_ ?_
              · refine v_aload_n (i := 0) hc 1 rfl dX9_clauseHere_259 rfl ?_
                refine v_ldc2 (x := (1718775661 : Int64)) hc w_1384 dX9_clauseHere_260 ?_
                refine v_cwB hc (m_V' (As := [.long (1718775661 : Int64)]) (b := v0) (rest := []) 1 hc hr (fun l D tys base => ct9_isWord l D tys base x239.2 v0 (1718775661 : Int64)) (fun x hx => ob9_isWord hx) rfl s9_isWord w_1372 rfl ⟨Nat.le_of_ble_eq_true rfl, Nat.le_of_ble_eq_true rfl⟩ ⟨Nat.le_of_ble_eq_true rfl, Nat.le_of_ble_eq_true rfl⟩ (Nat.le_of_ble_eq_true rfl) dX9_clauseHere_263) fun x263 => ?_
                refine v_ifb_eq hc 276 dX9_clauseHere_266 rfl ?_ ?_
                · refine v_aload_n (i := 0) hc 1 rfl dX9_clauseHere_276 rfl ?_
                  refine v_cwB hc (m_V' (As := []) (b := v0) (rest := []) 0 hc hr (fun l D tys base => ct9_stuffed l D tys base x263.2 v0) (fun x hx => ob9_stuffed hx) rfl s9_stuffed w_1488 rfl ⟨Nat.le_of_ble_eq_true rfl, Nat.le_of_ble_eq_true rfl⟩ ⟨Nat.le_of_ble_eq_true rfl, Nat.le_of_ble_eq_true rfl⟩ (Nat.le_of_ble_eq_true rfl) dX9_clauseHere_277) fun x277 => ?_
                  exact v_iret (v := bI x277.1) hc hq rfl (nar_b x277.1) (Nat.le_of_ble_eq_true rfl) (Nat.le_of_ble_eq_true rfl) rfl dX9_clauseHere_280
                · refine v_aload_n (i := 0) hc 1 rfl dX9_clauseHere_269 rfl ?_
                  refine v_cwB hc (m_V' (As := []) (b := v0) (rest := []) 0 hc hr (fun l D tys base => ct9_sourced l D tys base x263.2 v0) (fun x hx => ob9_sourced hx) rfl s9_sourced w_1484 rfl ⟨Nat.le_of_ble_eq_true rfl, Nat.le_of_ble_eq_true rfl⟩ ⟨Nat.le_of_ble_eq_true rfl, Nat.le_of_ble_eq_true rfl⟩ (Nat.le_of_ble_eq_true rfl) dX9_clauseHere_270) fun x270 => ?_
                  refine v_goto hc 280 dX9_clauseHere_273 rfl ?_
                  exact v_iret (v := bI x270.1) hc hq rfl (nar_b x270.1) (Nat.le_of_ble_eq_true rfl) (Nat.le_of_ble_eq_true rfl) rfl dX9_clauseHere_280
              · refine v_aload_n (i := 0) hc 1 rfl dX9_clauseHere_245 rfl ?_
                refine v_aload_n (i := 0) hc 1 rfl dX9_clauseHere_246 rfl ?_
                refine v_getV hc kX9 10 (by decide) w_1141 rfl dX9_clauseHere_247 (gR rfl fun x247 => ?_)
                refine v_iconst (x := (0 : Int32)) hc dX9_clauseHere_250 zi_0 ?_
                refine v_sipush (x := (1000 : Int32)) hc dX9_clauseHere_251 zs_1000 ?_
                refine v_iload_n (i := 1) hc 2 rfl dX9_clauseHere_254 rfl ?_
                refine v_cwB hc (m_V' (As := [.ref x247, .int (0 : Int32), .int (1000 : Int32), .int v1]) (b := v0) (rest := []) 4 hc hr (fun l D tys base => ct9_sets l D tys base x239.2 v0 x247 (0 : Int32) (1000 : Int32) v1) (fun x hx => ob9_sets hx) rfl s9_sets w_1480 rfl ⟨Nat.le_of_ble_eq_true rfl, Nat.le_of_ble_eq_true rfl⟩ ⟨Nat.le_of_ble_eq_true rfl, Nat.le_of_ble_eq_true rfl⟩ (Nat.le_of_ble_eq_true rfl) dX9_clauseHere_255) fun x255 => ?_
                exact v_iret (v := bI x255.1) hc hq rfl (nar_b x255.1) (Nat.le_of_ble_eq_true rfl) (Nat.le_of_ble_eq_true rfl) rfl dX9_clauseHere_258
            · refine v_aload_n (i := 0) hc 1 rfl dX9_clauseHere_222 rfl ?_
              refine v_aload_n (i := 0) hc 1 rfl dX9_clauseHere_223 rfl ?_
              refine v_getV hc kX9 9 (by decide) w_1140 rfl dX9_clauseHere_224 (gR rfl fun x224 => ?_)
              refine v_iconst (x := (1 : Int32)) hc dX9_clauseHere_227 zi_1 ?_
              refine v_bipush (x := (99 : Int32)) hc dX9_clauseHere_228 zb_99 ?_
              refine v_iload_n (i := 1) hc 2 rfl dX9_clauseHere_230 rfl ?_
              refine v_cwB hc (m_V' (As := [.ref x224, .int (1 : Int32), .int (99 : Int32), .int v1]) (b := v0) (rest := []) 4 hc hr (fun l D tys base => ct9_sets l D tys base x216.2 v0 x224 (1 : Int32) (99 : Int32) v1) (fun x hx => ob9_sets hx) rfl s9_sets w_1480 rfl ⟨Nat.le_of_ble_eq_true rfl, Nat.le_of_ble_eq_true rfl⟩ ⟨Nat.le_of_ble_eq_true rfl, Nat.le_of_ble_eq_true rfl⟩ (Nat.le_of_ble_eq_true rfl) dX9_clauseHere_231) fun x231 => ?_
              exact v_iret (v := bI x231.1) hc hq rfl (nar_b x231.1) (Nat.le_of_ble_eq_true rfl) (Nat.le_of_ble_eq_true rfl) rfl dX9_clauseHere_234
          · refine v_aload_n (i := 0) hc 1 rfl dX9_clauseHere_198 rfl ?_
            refine v_aload_n (i := 0) hc 1 rfl dX9_clauseHere_199 rfl ?_
            refine v_getV hc kX9 8 (by decide) w_1139 rfl dX9_clauseHere_200 (gR rfl fun x200 => ?_)
            refine v_iconst (x := (1 : Int32)) hc dX9_clauseHere_203 zi_1 ?_
            refine v_sipush (x := (999 : Int32)) hc dX9_clauseHere_204 zs_999 ?_
            refine v_iload_n (i := 1) hc 2 rfl dX9_clauseHere_207 rfl ?_
            refine v_cwB hc (m_V' (As := [.ref x200, .int (1 : Int32), .int (999 : Int32), .int v1]) (b := v0) (rest := []) 4 hc hr (fun l D tys base => ct9_sets l D tys base x192.2 v0 x200 (1 : Int32) (999 : Int32) v1) (fun x hx => ob9_sets hx) rfl s9_sets w_1480 rfl ⟨Nat.le_of_ble_eq_true rfl, Nat.le_of_ble_eq_true rfl⟩ ⟨Nat.le_of_ble_eq_true rfl, Nat.le_of_ble_eq_true rfl⟩ (Nat.le_of_ble_eq_true rfl) dX9_clauseHere_208) fun x208 => ?_
            exact v_iret (v := bI x208.1) hc hq rfl (nar_b x208.1) (Nat.le_of_ble_eq_true rfl) (Nat.le_of_ble_eq_true rfl) rfl dX9_clauseHere_211
        · refine v_aload_n (i := 0) hc 1 rfl dX9_clauseHere_175 rfl ?_
          refine v_aload_n (i := 0) hc 1 rfl dX9_clauseHere_176 rfl ?_
          refine v_getV hc kX9 7 (by decide) w_1138 rfl dX9_clauseHere_177 (gR rfl fun x177 => ?_)
          refine v_iconst (x := (1 : Int32)) hc dX9_clauseHere_180 zi_1 ?_
          refine v_bipush (x := (99 : Int32)) hc dX9_clauseHere_181 zb_99 ?_
          refine v_iload_n (i := 1) hc 2 rfl dX9_clauseHere_183 rfl ?_
          refine v_cwB hc (m_V' (As := [.ref x177, .int (1 : Int32), .int (99 : Int32), .int v1]) (b := v0) (rest := []) 4 hc hr (fun l D tys base => ct9_sets l D tys base x169.2 v0 x177 (1 : Int32) (99 : Int32) v1) (fun x hx => ob9_sets hx) rfl s9_sets w_1480 rfl ⟨Nat.le_of_ble_eq_true rfl, Nat.le_of_ble_eq_true rfl⟩ ⟨Nat.le_of_ble_eq_true rfl, Nat.le_of_ble_eq_true rfl⟩ (Nat.le_of_ble_eq_true rfl) dX9_clauseHere_184) fun x184 => ?_
          exact v_iret (v := bI x184.1) hc hq rfl (nar_b x184.1) (Nat.le_of_ble_eq_true rfl) (Nat.le_of_ble_eq_true rfl) rfl dX9_clauseHere_187
      · refine v_aload_n (i := 0) hc 1 rfl dX9_clauseHere_160 rfl ?_
        refine v_cwB hc (m_V' (As := []) (b := v0) (rest := []) 0 hc hr (fun l D tys base => ct9_yes l D tys base x154.2 v0) (fun x hx => ob9_yes hx) rfl s9_yes w_1390 rfl ⟨Nat.le_of_ble_eq_true rfl, Nat.le_of_ble_eq_true rfl⟩ ⟨Nat.le_of_ble_eq_true rfl, Nat.le_of_ble_eq_true rfl⟩ (Nat.le_of_ble_eq_true rfl) dX9_clauseHere_161) fun x161 => ?_
        exact v_iret (v := bI x161.1) hc hq rfl (nar_b x161.1) (Nat.le_of_ble_eq_true rfl) (Nat.le_of_ble_eq_true rfl) rfl dX9_clauseHere_164
    · refine v_aload_n (i := 0) hc 1 rfl dX9_clauseHere_133 rfl ?_
      refine v_iconst (x := (4 : Int32)) hc dX9_clauseHere_134 zi_4 ?_
      refine v_iload_n (i := 1) hc 2 rfl dX9_clauseHere_135 rfl ?_
      refine v_cwB hc (m_V' (As := [.int (4 : Int32), .int v1]) (b := v0) (rest := []) 2 hc hr (fun l D tys base => ct9_fails l D tys base h v0 (4 : Int32) v1) (fun x hx => ob9_fails hx) rfl s9_fails w_1386 rfl ⟨Nat.le_of_ble_eq_true rfl, Nat.le_of_ble_eq_true rfl⟩ ⟨Nat.le_of_ble_eq_true rfl, Nat.le_of_ble_eq_true rfl⟩ (Nat.le_of_ble_eq_true rfl) dX9_clauseHere_136) fun x136 => ?_
      exact v_iret (v := bI x136.1) hc hq rfl (nar_b x136.1) (Nat.le_of_ble_eq_true rfl) (Nat.le_of_ble_eq_true rfl) rfl dX9_clauseHere_139
  · refine v_aload_n (i := 0) hc 1 rfl dX9_clauseHere_117 rfl ?_
    refine v_iconst (x := (0 : Int32)) hc dX9_clauseHere_118 zi_0 ?_
    refine v_iload_n (i := 1) hc 2 rfl dX9_clauseHere_119 rfl ?_
    refine v_cwB hc (m_V' (As := [.int (0 : Int32), .int v1]) (b := v0) (rest := []) 2 hc hr (fun l D tys base => ct9_fails l D tys base h v0 (0 : Int32) v1) (fun x hx => ob9_fails hx) rfl s9_fails w_1386 rfl ⟨Nat.le_of_ble_eq_true rfl, Nat.le_of_ble_eq_true rfl⟩ ⟨Nat.le_of_ble_eq_true rfl, Nat.le_of_ble_eq_true rfl⟩ (Nat.le_of_ble_eq_true rfl) dX9_clauseHere_120) fun x120 => ?_
    exact v_iret (v := bI x120.1) hc hq rfl (nar_b x120.1) (Nat.le_of_ble_eq_true rfl) (Nat.le_of_ble_eq_true rfl) rfl dX9_clauseHere_123
def f9_clauseHere_24 (h : AH) (v0 : Nat) (v1 : Int32) (s0 : Bool) : Option (Bool × AH) := (if s0 = true then (f9_isWord h v0 (7955827 : Int64)).bind fun x33 => (if x33.1 = true then f9_clauseHere_112 x33.2 v0 v1 true else (f9_isWord x33.2 v0 (499850634611 : Int64)).bind fun x43 => (if x43.1 = true then f9_clauseHere_112 x43.2 v0 v1 true else (f9_isWord x43.2 v0 (427070942835 : Int64)).bind fun x53 => (if x53.1 = true then f9_clauseHere_112 x53.2 v0 v1 true else f9_clauseHere_112 x53.2 v0 v1 false))) else (f9_isWord h v0 (1885430629 : Int64)).bind fun x71 => (if x71.1 = true then f9_clauseHere_112 x71.2 v0 v1 true else (f9_isWord x71.2 v0 (495740088435 : Int64)).bind fun x81 => (if x81.1 = true then f9_clauseHere_112 x81.2 v0 v1 true else (f9_isWord x81.2 v0 (1718775661 : Int64)).bind fun x91 => (if x91.1 = true then f9_clauseHere_112 x91.2 v0 v1 true else (f9_isWord x91.2 v0 (28518 : Int64)).bind fun x101 => (if x101.1 = true then f9_clauseHere_112 x101.2 v0 v1 true else f9_clauseHere_112 x101.2 v0 v1 false)))))
set_option maxRecDepth 100000 in
theorem vl9_clauseHere_24 {κ : Kx} (hc : CX κ RX9 cX9_clauseHere) (hr : RX κ ({ frames := 10, cells := 0, slots := 0, locals := 218 } : Room)) (hq : QX κ (some .boolean) 0 0) (hL : 4 = κ.2.2.2.2.1) (h : AH) (v0 : Nat) (v1 : Int32) (s0 : Bool) : V κ (wB) 0 0 24 [(0, .ref v0), (1, .int v1)] [.int (bI s0)] h (f9_clauseHere_24 h v0 v1 s0) := by
  have hn : ∀ i, i < 4 → i < κ.2.2.2.2.1 := fun i q => hL ▸ q
  unfold f9_clauseHere_24
  refine v_istore_n (i := 2) (L' := [(2, .int (bI s0)), (0, .ref v0), (1, .int v1)]) hc dX9_clauseHere_24 rfl (hn 2 (Nat.le_of_ble_eq_true rfl)) rfl ?_
  refine v_iload_n (i := 2) hc 0 rfl dX9_clauseHere_25 rfl ?_
  refine v_ifb_eq hc 67 dX9_clauseHere_26 rfl ?_ ?_
  · refine v_aload_n (i := 0) hc 1 rfl dX9_clauseHere_67 rfl ?_
    refine v_ldc2 (x := (1885430629 : Int64)) hc w_1382 dX9_clauseHere_68 ?_
    refine v_cwB hc (m_V' (As := [.long (1885430629 : Int64)]) (b := v0) (rest := []) 1 hc hr (fun l D tys base => ct9_isWord l D tys base h v0 (1885430629 : Int64)) (fun x hx => ob9_isWord hx) rfl s9_isWord w_1372 rfl ⟨Nat.le_of_ble_eq_true rfl, Nat.le_of_ble_eq_true rfl⟩ ⟨Nat.le_of_ble_eq_true rfl, Nat.le_of_ble_eq_true rfl⟩ (Nat.le_of_ble_eq_true rfl) dX9_clauseHere_71) fun x71 => ?_
    refine v_ifb_ne hc 107 dX9_clauseHere_74 rfl ?_ ?_
    · refine v_iconst (x := (1 : Int32)) hc dX9_clauseHere_107 zi_1 ?_
      refine v_goto hc 112 dX9_clauseHere_108 rfl ?_
      refine v_sub (L' := [(0, .ref v0), (1, .int v1)]) [1, 2] rfl ?_
      exact vl9_clauseHere_112 hc hr hq hL x71.2 v0 v1 true
    · refine v_aload_n (i := 0) hc 1 rfl dX9_clauseHere_77 rfl ?_
      refine v_ldc2 (x := (495740088435 : Int64)) hc w_1383 dX9_clauseHere_78 ?_
      refine v_cwB hc (m_V' (As := [.long (495740088435 : Int64)]) (b := v0) (rest := []) 1 hc hr (fun l D tys base => ct9_isWord l D tys base x71.2 v0 (495740088435 : Int64)) (fun x hx => ob9_isWord hx) rfl s9_isWord w_1372 rfl ⟨Nat.le_of_ble_eq_true rfl, Nat.le_of_ble_eq_true rfl⟩ ⟨Nat.le_of_ble_eq_true rfl, Nat.le_of_ble_eq_true rfl⟩ (Nat.le_of_ble_eq_true rfl) dX9_clauseHere_81) fun x81 => ?_
      refine v_ifb_ne hc 107 dX9_clauseHere_84 rfl ?_ ?_
      · refine v_iconst (x := (1 : Int32)) hc dX9_clauseHere_107 zi_1 ?_
        refine v_goto hc 112 dX9_clauseHere_108 rfl ?_
        refine v_sub (L' := [(0, .ref v0), (1, .int v1)]) [1, 2] rfl ?_
        exact vl9_clauseHere_112 hc hr hq hL x81.2 v0 v1 true
      · refine v_aload_n (i := 0) hc 1 rfl dX9_clauseHere_87 rfl ?_
        refine v_ldc2 (x := (1718775661 : Int64)) hc w_1384 dX9_clauseHere_88 ?_
        refine v_cwB hc (m_V' (As := [.long (1718775661 : Int64)]) (b := v0) (rest := []) 1 hc hr (fun l D tys base => ct9_isWord l D tys base x81.2 v0 (1718775661 : Int64)) (fun x hx => ob9_isWord hx) rfl s9_isWord w_1372 rfl ⟨Nat.le_of_ble_eq_true rfl, Nat.le_of_ble_eq_true rfl⟩ ⟨Nat.le_of_ble_eq_true rfl, Nat.le_of_ble_eq_true rfl⟩ (Nat.le_of_ble_eq_true rfl) dX9_clauseHere_91) fun x91 => ?_
        refine v_ifb_ne hc 107 dX9_clauseHere_94 rfl ?_ ?_
        · refine v_iconst (x := (1 : Int32)) hc dX9_clauseHere_107 zi_1 ?_
          refine v_goto hc 112 dX9_clauseHere_108 rfl ?_
          refine v_sub (L' := [(0, .ref v0), (1, .int v1)]) [1, 2] rfl ?_
          exact vl9_clauseHere_112 hc hr hq hL x91.2 v0 v1 true
        · refine v_aload_n (i := 0) hc 1 rfl dX9_clauseHere_97 rfl ?_
          refine v_ldc2 (x := (28518 : Int64)) hc w_1385 dX9_clauseHere_98 ?_
          refine v_cwB hc (m_V' (As := [.long (28518 : Int64)]) (b := v0) (rest := []) 1 hc hr (fun l D tys base => ct9_isWord l D tys base x91.2 v0 (28518 : Int64)) (fun x hx => ob9_isWord hx) rfl s9_isWord w_1372 rfl ⟨Nat.le_of_ble_eq_true rfl, Nat.le_of_ble_eq_true rfl⟩ ⟨Nat.le_of_ble_eq_true rfl, Nat.le_of_ble_eq_true rfl⟩ (Nat.le_of_ble_eq_true rfl) dX9_clauseHere_101) fun x101 => ?_
          refine v_ifb_eq hc 111 dX9_clauseHere_104 rfl ?_ ?_
          · refine v_iconst (x := (0 : Int32)) hc dX9_clauseHere_111 zi_0 ?_
            refine v_sub (L' := [(0, .ref v0), (1, .int v1)]) [1, 2] rfl ?_
            exact vl9_clauseHere_112 hc hr hq hL x101.2 v0 v1 false
          · refine v_iconst (x := (1 : Int32)) hc dX9_clauseHere_107 zi_1 ?_
            refine v_goto hc 112 dX9_clauseHere_108 rfl ?_
            refine v_sub (L' := [(0, .ref v0), (1, .int v1)]) [1, 2] rfl ?_
            exact vl9_clauseHere_112 hc hr hq hL x101.2 v0 v1 true
  · refine v_aload_n (i := 0) hc 1 rfl dX9_clauseHere_29 rfl ?_
    refine v_ldc2 (x := (7955827 : Int64)) hc w_1371 dX9_clauseHere_30 ?_
    refine v_cwB hc (m_V' (As := [.long (7955827 : Int64)]) (b := v0) (rest := []) 1 hc hr (fun l D tys base => ct9_isWord l D tys base h v0 (7955827 : Int64)) (fun x hx => ob9_isWord hx) rfl s9_isWord w_1372 rfl ⟨Nat.le_of_ble_eq_true rfl, Nat.le_of_ble_eq_true rfl⟩ ⟨Nat.le_of_ble_eq_true rfl, Nat.le_of_ble_eq_true rfl⟩ (Nat.le_of_ble_eq_true rfl) dX9_clauseHere_33) fun x33 => ?_
    refine v_ifb_ne hc 59 dX9_clauseHere_36 rfl ?_ ?_
    · refine v_iconst (x := (1 : Int32)) hc dX9_clauseHere_59 zi_1 ?_
      refine v_goto hc 112 dX9_clauseHere_60 rfl ?_
      refine v_sub (L' := [(0, .ref v0), (1, .int v1)]) [1, 2] rfl ?_
      exact vl9_clauseHere_112 hc hr hq hL x33.2 v0 v1 true
    · refine v_aload_n (i := 0) hc 1 rfl dX9_clauseHere_39 rfl ?_
      refine v_ldc2 (x := (499850634611 : Int64)) hc w_1380 dX9_clauseHere_40 ?_
      refine v_cwB hc (m_V' (As := [.long (499850634611 : Int64)]) (b := v0) (rest := []) 1 hc hr (fun l D tys base => ct9_isWord l D tys base x33.2 v0 (499850634611 : Int64)) (fun x hx => ob9_isWord hx) rfl s9_isWord w_1372 rfl ⟨Nat.le_of_ble_eq_true rfl, Nat.le_of_ble_eq_true rfl⟩ ⟨Nat.le_of_ble_eq_true rfl, Nat.le_of_ble_eq_true rfl⟩ (Nat.le_of_ble_eq_true rfl) dX9_clauseHere_43) fun x43 => ?_
      refine v_ifb_ne hc 59 dX9_clauseHere_46 rfl ?_ ?_
      · refine v_iconst (x := (1 : Int32)) hc dX9_clauseHere_59 zi_1 ?_
        refine v_goto hc 112 dX9_clauseHere_60 rfl ?_
        refine v_sub (L' := [(0, .ref v0), (1, .int v1)]) [1, 2] rfl ?_
        exact vl9_clauseHere_112 hc hr hq hL x43.2 v0 v1 true
      · refine v_aload_n (i := 0) hc 1 rfl dX9_clauseHere_49 rfl ?_
        refine v_ldc2 (x := (427070942835 : Int64)) hc w_1381 dX9_clauseHere_50 ?_
        refine v_cwB hc (m_V' (As := [.long (427070942835 : Int64)]) (b := v0) (rest := []) 1 hc hr (fun l D tys base => ct9_isWord l D tys base x43.2 v0 (427070942835 : Int64)) (fun x hx => ob9_isWord hx) rfl s9_isWord w_1372 rfl ⟨Nat.le_of_ble_eq_true rfl, Nat.le_of_ble_eq_true rfl⟩ ⟨Nat.le_of_ble_eq_true rfl, Nat.le_of_ble_eq_true rfl⟩ (Nat.le_of_ble_eq_true rfl) dX9_clauseHere_53) fun x53 => ?_
        refine v_ifb_eq hc 63 dX9_clauseHere_56 rfl ?_ ?_
        · refine v_iconst (x := (0 : Int32)) hc dX9_clauseHere_63 zi_0 ?_
          refine v_goto hc 112 dX9_clauseHere_64 rfl ?_
          refine v_sub (L' := [(0, .ref v0), (1, .int v1)]) [1, 2] rfl ?_
          exact vl9_clauseHere_112 hc hr hq hL x53.2 v0 v1 false
        · refine v_iconst (x := (1 : Int32)) hc dX9_clauseHere_59 zi_1 ?_
          refine v_goto hc 112 dX9_clauseHere_60 rfl ?_
          refine v_sub (L' := [(0, .ref v0), (1, .int v1)]) [1, 2] rfl ?_
          exact vl9_clauseHere_112 hc hr hq hL x53.2 v0 v1 true
def f9_clauseHere (h : AH) (this : Nat) : Option (Bool × AH) := (hObj 9 h this).bind fun _ => (f9_see h this).bind fun x1 => (fI 9 16 x1.2 this).bind fun x6 => (fI 9 19 x1.2 this).bind fun x11 => (if (8 : Int32) ≤ x11 then f9_clauseHere_24 x1.2 this x6 false else f9_clauseHere_24 x1.2 this x6 true)
theorem ob9_clauseHere {h : AH} {this : Nat} {x : Bool × AH} (e : f9_clauseHere h this = some x) : ∃ fs, hObj 9 h this = some fs := by
  unfold f9_clauseHere at e
  obtain ⟨fs, h1, -⟩ := bd e
  exact ⟨fs, h1⟩
set_option maxRecDepth 100000 in
theorem ct9_clauseHere (l : Launch) (D : va_G) (tys : Tys) (base : Nat) (h : AH) (this : Nat) : Ct l D tys base yX9_clauseHere cX9_clauseHere 4 (some .boolean) 10 218 0 0 [.ref this] h (wB) (f9_clauseHere h this) := by
  refine Ct.intro (own := RX9) (L := [(0, .ref this)]) rfl (by decide) rfl (Nat.le_of_ble_eq_true rfl) fun κ hc hr hq hi hL => ?_
  have hn : ∀ i, i < 4 → i < κ.2.2.2.2.1 := fun i q => hL ▸ q
  unfold f9_clauseHere
  refine v_obj ?_
  refine v_aload_n (i := 0) hc 0 rfl dX9_clauseHere_0 rfl ?_
  refine v_cwI hc (m_V' (As := []) (b := this) (rest := []) 0 hc hr (fun l D tys base => ct9_see l D tys base h this) (fun x hx => ob9_see hx) rfl s9_see w_1367 rfl ⟨Nat.le_of_ble_eq_true rfl, Nat.le_of_ble_eq_true rfl⟩ ⟨Nat.le_of_ble_eq_true rfl, Nat.le_of_ble_eq_true rfl⟩ (Nat.le_of_ble_eq_true rfl) dX9_clauseHere_1) fun x1 => ?_
  refine v_pop hc dX9_clauseHere_4 rfl ?_
  refine v_aload_n (i := 0) hc 0 rfl dX9_clauseHere_5 rfl ?_
  refine v_getV hc kX9 16 (by decide) w_1147 rfl dX9_clauseHere_6 (gI rfl fun x6 => ?_)
  refine v_istore_n (i := 1) (L' := [(1, .int x6), (0, .ref this)]) hc dX9_clauseHere_9 rfl (hn 1 (Nat.le_of_ble_eq_true rfl)) rfl ?_
  refine v_aload_n (i := 0) hc 1 rfl dX9_clauseHere_10 rfl ?_
  refine v_getV hc kX9 19 (by decide) w_1150 rfl dX9_clauseHere_11 (gI rfl fun x11 => ?_)
  refine v_bipush (x := (8 : Int32)) hc dX9_clauseHere_14 zb_8 ?_
  refine v_icmp_ge hc 23 dX9_clauseHere_16 rfl ?_ ?_
  · refine v_iconst (x := (0 : Int32)) hc dX9_clauseHere_23 zi_0 ?_
    refine v_sub (L' := [(0, .ref this), (1, .int x6)]) [1, 0] rfl ?_
    exact vl9_clauseHere_24 hc hr hq hL x1.2 this x6 false
  · refine v_iconst (x := (1 : Int32)) hc dX9_clauseHere_19 zi_1 ?_
    refine v_goto hc 24 dX9_clauseHere_20 rfl ?_
    refine v_sub (L' := [(0, .ref this), (1, .int x6)]) [1, 0] rfl ?_
    exact vl9_clauseHere_24 hc hr hq hL x1.2 this x6 true
theorem s9_clauseHere : YV yX9_clauseHere RX9 cX9_clauseHere 4 (some .boolean) 0 := ⟨w_1366, w_1365, w_63, w_118, rfl, by decide +kernel, by decide +kernel, by decide +kernel⟩
def f9_reads_218 (h : AH) (v0 : Nat) (v1 : Int32) (s0 : Nat) (s1 : Int32) (s2 : Int32) : Option (Int32 × AH) := (sI 0 h s0 s1 s2).bind fun h218 => (fR 9 10 h218 v0).bind fun x220 => (fR 9 10 h218 v0).bind fun x225 => (aI 0 h218 x225 v1).bind fun x229 => (if 0 ≤ x229 then (fR 9 10 h218 v0).bind fun x238 => (aI 0 h218 x238 v1).bind fun x242 => (sI 0 h218 x220 v1 x242).bind fun h243 => (fI 9 17 h243 v0).bind fun x245 => some (x245, h243) else (sI 0 h218 x220 v1 (0 : Int32)).bind fun h243 => (fI 9 17 h243 v0).bind fun x245 => some (x245, h243))
set_option maxRecDepth 100000 in
theorem vl9_reads_218 {κ : Kx} (hc : CX κ RX9 cX9_reads) (hr : RX κ ({ frames := 11, cells := 0, slots := 0, locals := 241 } : Room)) (hq : QX κ (some .int) 0 0) (hL : 3 = κ.2.2.2.2.1) (h : AH) (v0 : Nat) (v1 : Int32) (s0 : Nat) (s1 : Int32) (s2 : Int32) : V κ (wI) 0 0 218 [(0, .ref v0), (1, .int v1)] [.int s2, .int s1, .ref s0] h (f9_reads_218 h v0 v1 s0 s1 s2) := by
  have hn : ∀ i, i < 3 → i < κ.2.2.2.2.1 := fun i q => hL ▸ q
  unfold f9_reads_218
  refine v_iast hc dX9_reads_218 fun h218 => ?_
  refine v_aload_n (i := 0) hc 0 rfl dX9_reads_219 rfl ?_
  refine v_getV hc kX9 10 (by decide) w_1141 rfl dX9_reads_220 (gR rfl fun x220 => ?_)
  refine v_iload_n (i := 1) hc 1 rfl dX9_reads_223 rfl ?_
  refine v_aload_n (i := 0) hc 0 rfl dX9_reads_224 rfl ?_
  refine v_getV hc kX9 10 (by decide) w_1141 rfl dX9_reads_225 (gR rfl fun x225 => ?_)
  refine v_iload_n (i := 1) hc 1 rfl dX9_reads_228 rfl ?_
  refine v_iald hc dX9_reads_229 fun x229 => ?_
  refine v_if_ge hc 237 dX9_reads_230 rfl ?_ ?_
  · refine v_aload_n (i := 0) hc 0 rfl dX9_reads_237 rfl ?_
    refine v_getV hc kX9 10 (by decide) w_1141 rfl dX9_reads_238 (gR rfl fun x238 => ?_)
    refine v_iload_n (i := 1) hc 1 rfl dX9_reads_241 rfl ?_
    refine v_iald hc dX9_reads_242 fun x242 => ?_
    refine v_iast hc dX9_reads_243 fun h243 => ?_
    refine v_aload_n (i := 0) hc 0 rfl dX9_reads_244 rfl ?_
    refine v_getV hc kX9 17 (by decide) w_1148 rfl dX9_reads_245 (gI rfl fun x245 => ?_)
    exact v_iret hc hq rfl rfl (Nat.le_of_ble_eq_true rfl) (Nat.le_of_ble_eq_true rfl) rfl dX9_reads_248
  · refine v_iconst (x := (0 : Int32)) hc dX9_reads_233 zi_0 ?_
    refine v_goto hc 243 dX9_reads_234 rfl ?_
    refine v_iast hc dX9_reads_243 fun h243 => ?_
    refine v_aload_n (i := 0) hc 0 rfl dX9_reads_244 rfl ?_
    refine v_getV hc kX9 17 (by decide) w_1148 rfl dX9_reads_245 (gI rfl fun x245 => ?_)
    exact v_iret hc hq rfl rfl (Nat.le_of_ble_eq_true rfl) (Nat.le_of_ble_eq_true rfl) rfl dX9_reads_248
def f9_reads_193 (h : AH) (v0 : Nat) (v1 : Int32) (s0 : Nat) (s1 : Int32) (s2 : Int32) : Option (Int32 × AH) := (sI 0 h s0 s1 s2).bind fun h193 => (fR 9 9 h193 v0).bind fun x195 => (fR 9 9 h193 v0).bind fun x200 => (aI 0 h193 x200 v1).bind fun x204 => (if 0 ≤ x204 then (fR 9 9 h193 v0).bind fun x213 => (aI 0 h193 x213 v1).bind fun x217 => f9_reads_218 h193 v0 v1 x195 v1 x217 else f9_reads_218 h193 v0 v1 x195 v1 (1 : Int32))
set_option maxRecDepth 100000 in
theorem vl9_reads_193 {κ : Kx} (hc : CX κ RX9 cX9_reads) (hr : RX κ ({ frames := 11, cells := 0, slots := 0, locals := 241 } : Room)) (hq : QX κ (some .int) 0 0) (hL : 3 = κ.2.2.2.2.1) (h : AH) (v0 : Nat) (v1 : Int32) (s0 : Nat) (s1 : Int32) (s2 : Int32) : V κ (wI) 0 0 193 [(0, .ref v0), (1, .int v1)] [.int s2, .int s1, .ref s0] h (f9_reads_193 h v0 v1 s0 s1 s2) := by
  have hn : ∀ i, i < 3 → i < κ.2.2.2.2.1 := fun i q => hL ▸ q
  unfold f9_reads_193
  refine v_iast hc dX9_reads_193 fun h193 => ?_
  refine v_aload_n (i := 0) hc 0 rfl dX9_reads_194 rfl ?_
  refine v_getV hc kX9 9 (by decide) w_1140 rfl dX9_reads_195 (gR rfl fun x195 => ?_)
  refine v_iload_n (i := 1) hc 1 rfl dX9_reads_198 rfl ?_
  refine v_aload_n (i := 0) hc 0 rfl dX9_reads_199 rfl ?_
  refine v_getV hc kX9 9 (by decide) w_1140 rfl dX9_reads_200 (gR rfl fun x200 => ?_)
  refine v_iload_n (i := 1) hc 1 rfl dX9_reads_203 rfl ?_
  refine v_iald hc dX9_reads_204 fun x204 => ?_
  refine v_if_ge hc 212 dX9_reads_205 rfl ?_ ?_
  · refine v_aload_n (i := 0) hc 0 rfl dX9_reads_212 rfl ?_
    refine v_getV hc kX9 9 (by decide) w_1140 rfl dX9_reads_213 (gR rfl fun x213 => ?_)
    refine v_iload_n (i := 1) hc 1 rfl dX9_reads_216 rfl ?_
    refine v_iald hc dX9_reads_217 fun x217 => ?_
    refine v_sub (L' := [(0, .ref v0), (1, .int v1)]) [0, 1] rfl ?_
    exact vl9_reads_218 hc hr hq hL h193 v0 v1 x195 v1 x217
  · refine v_iconst (x := (1 : Int32)) hc dX9_reads_208 zi_1 ?_
    refine v_goto hc 218 dX9_reads_209 rfl ?_
    refine v_sub (L' := [(0, .ref v0), (1, .int v1)]) [0, 1] rfl ?_
    exact vl9_reads_218 hc hr hq hL h193 v0 v1 x195 v1 (1 : Int32)
def f9_reads_168 (h : AH) (v0 : Nat) (v1 : Int32) (s0 : Nat) (s1 : Int32) (s2 : Int32) : Option (Int32 × AH) := (sI 0 h s0 s1 s2).bind fun h168 => (fR 9 8 h168 v0).bind fun x170 => (fR 9 8 h168 v0).bind fun x175 => (aI 0 h168 x175 v1).bind fun x179 => (if 0 ≤ x179 then (fR 9 8 h168 v0).bind fun x188 => (aI 0 h168 x188 v1).bind fun x192 => f9_reads_193 h168 v0 v1 x170 v1 x192 else f9_reads_193 h168 v0 v1 x170 v1 (1 : Int32))
set_option maxRecDepth 100000 in
theorem vl9_reads_168 {κ : Kx} (hc : CX κ RX9 cX9_reads) (hr : RX κ ({ frames := 11, cells := 0, slots := 0, locals := 241 } : Room)) (hq : QX κ (some .int) 0 0) (hL : 3 = κ.2.2.2.2.1) (h : AH) (v0 : Nat) (v1 : Int32) (s0 : Nat) (s1 : Int32) (s2 : Int32) : V κ (wI) 0 0 168 [(0, .ref v0), (1, .int v1)] [.int s2, .int s1, .ref s0] h (f9_reads_168 h v0 v1 s0 s1 s2) := by
  have hn : ∀ i, i < 3 → i < κ.2.2.2.2.1 := fun i q => hL ▸ q
  unfold f9_reads_168
  refine v_iast hc dX9_reads_168 fun h168 => ?_
  refine v_aload_n (i := 0) hc 0 rfl dX9_reads_169 rfl ?_
  refine v_getV hc kX9 8 (by decide) w_1139 rfl dX9_reads_170 (gR rfl fun x170 => ?_)
  refine v_iload_n (i := 1) hc 1 rfl dX9_reads_173 rfl ?_
  refine v_aload_n (i := 0) hc 0 rfl dX9_reads_174 rfl ?_
  refine v_getV hc kX9 8 (by decide) w_1139 rfl dX9_reads_175 (gR rfl fun x175 => ?_)
  refine v_iload_n (i := 1) hc 1 rfl dX9_reads_178 rfl ?_
  refine v_iald hc dX9_reads_179 fun x179 => ?_
  refine v_if_ge hc 187 dX9_reads_180 rfl ?_ ?_
  · refine v_aload_n (i := 0) hc 0 rfl dX9_reads_187 rfl ?_
    refine v_getV hc kX9 8 (by decide) w_1139 rfl dX9_reads_188 (gR rfl fun x188 => ?_)
    refine v_iload_n (i := 1) hc 1 rfl dX9_reads_191 rfl ?_
    refine v_iald hc dX9_reads_192 fun x192 => ?_
    refine v_sub (L' := [(0, .ref v0), (1, .int v1)]) [0, 1] rfl ?_
    exact vl9_reads_193 hc hr hq hL h168 v0 v1 x170 v1 x192
  · refine v_iconst (x := (1 : Int32)) hc dX9_reads_183 zi_1 ?_
    refine v_goto hc 193 dX9_reads_184 rfl ?_
    refine v_sub (L' := [(0, .ref v0), (1, .int v1)]) [0, 1] rfl ?_
    exact vl9_reads_193 hc hr hq hL h168 v0 v1 x170 v1 (1 : Int32)
def f9_reads_139 (h : AH) (v0 : Nat) (v1 : Int32) : Option (Int32 × AH) := (fS 9 2 h v0 (.int (0 : Int32))).bind fun h141 => (fR 9 7 h141 v0).bind fun x145 => (fR 9 7 h141 v0).bind fun x150 => (aI 0 h141 x150 v1).bind fun x154 => (if 0 ≤ x154 then (fR 9 7 h141 v0).bind fun x163 => (aI 0 h141 x163 v1).bind fun x167 => f9_reads_168 h141 v0 v1 x145 v1 x167 else f9_reads_168 h141 v0 v1 x145 v1 (1 : Int32))
set_option maxRecDepth 100000 in
theorem vl9_reads_139 {κ : Kx} (hc : CX κ RX9 cX9_reads) (hr : RX κ ({ frames := 11, cells := 0, slots := 0, locals := 241 } : Room)) (hq : QX κ (some .int) 0 0) (hL : 3 = κ.2.2.2.2.1) (h : AH) (v0 : Nat) (v1 : Int32) : V κ (wI) 0 0 139 [(0, .ref v0), (1, .int v1)] [] h (f9_reads_139 h v0 v1) := by
  have hn : ∀ i, i < 3 → i < κ.2.2.2.2.1 := fun i q => hL ▸ q
  unfold f9_reads_139
  refine v_aload_n (i := 0) hc 0 rfl dX9_reads_139 rfl ?_
  refine v_iconst (x := (0 : Int32)) hc dX9_reads_140 zi_0 ?_
  refine v_put hc kX9 2 (by decide) w_1133 rfl rfl dX9_reads_141 ⟨rfl, rfl⟩ fun h141 => ?_
  refine v_aload_n (i := 0) hc 0 rfl dX9_reads_144 rfl ?_
  refine v_getV hc kX9 7 (by decide) w_1138 rfl dX9_reads_145 (gR rfl fun x145 => ?_)
  refine v_iload_n (i := 1) hc 1 rfl dX9_reads_148 rfl ?_
  refine v_aload_n (i := 0) hc 0 rfl dX9_reads_149 rfl ?_
  refine v_getV hc kX9 7 (by decide) w_1138 rfl dX9_reads_150 (gR rfl fun x150 => ?_)
  refine v_iload_n (i := 1) hc 1 rfl dX9_reads_153 rfl ?_
  refine v_iald hc dX9_reads_154 fun x154 => ?_
  refine v_if_ge hc 162 dX9_reads_155 rfl ?_ ?_
  · refine v_aload_n (i := 0) hc 0 rfl dX9_reads_162 rfl ?_
    refine v_getV hc kX9 7 (by decide) w_1138 rfl dX9_reads_163 (gR rfl fun x163 => ?_)
    refine v_iload_n (i := 1) hc 1 rfl dX9_reads_166 rfl ?_
    refine v_iald hc dX9_reads_167 fun x167 => ?_
    refine v_sub (L' := [(0, .ref v0), (1, .int v1)]) [0, 1] rfl ?_
    exact vl9_reads_168 hc hr hq hL h141 v0 v1 x145 v1 x167
  · refine v_iconst (x := (1 : Int32)) hc dX9_reads_158 zi_1 ?_
    refine v_goto hc 168 dX9_reads_159 rfl ?_
    refine v_sub (L' := [(0, .ref v0), (1, .int v1)]) [0, 1] rfl ?_
    exact vl9_reads_168 hc hr hq hL h141 v0 v1 x145 v1 (1 : Int32)
def f9_reads_117 (h : AH) (v0 : Nat) (v1 : Int32) (v2 : Bool) : Option (Int32 × AH) := (if v2 = true then (f9_see h v0).bind fun x122 => (if x122.1 = (-1 : Int32) then f9_reads_139 x122.2 v0 v1 else (fI 9 16 x122.2 v0).bind fun x132 => (f9_fails x122.2 v0 (0 : Int32) x132).bind fun x135 => f9_reads_139 x135.2 v0 v1) else f9_reads_139 h v0 v1)
set_option maxRecDepth 100000 in
theorem vl9_reads_117 {κ : Kx} (hc : CX κ RX9 cX9_reads) (hr : RX κ ({ frames := 11, cells := 0, slots := 0, locals := 241 } : Room)) (hq : QX κ (some .int) 0 0) (hL : 3 = κ.2.2.2.2.1) (h : AH) (v0 : Nat) (v1 : Int32) (v2 : Bool) : V κ (wI) 0 0 117 [(0, .ref v0), (1, .int v1), (2, .int (bI v2))] [] h (f9_reads_117 h v0 v1 v2) := by
  have hn : ∀ i, i < 3 → i < κ.2.2.2.2.1 := fun i q => hL ▸ q
  unfold f9_reads_117
  refine v_iload_n (i := 2) hc 2 rfl dX9_reads_117 rfl ?_
  refine v_ifb_eq hc 139 dX9_reads_118 rfl ?_ ?_
  · refine v_sub (L' := [(0, .ref v0), (1, .int v1)]) [0, 1] rfl ?_
    exact vl9_reads_139 hc hr hq hL h v0 v1
  · refine v_aload_n (i := 0) hc 0 rfl dX9_reads_121 rfl ?_
    refine v_cwI hc (m_V' (As := []) (b := v0) (rest := []) 0 hc hr (fun l D tys base => ct9_see l D tys base h v0) (fun x hx => ob9_see hx) rfl s9_see w_1367 rfl ⟨Nat.le_of_ble_eq_true rfl, Nat.le_of_ble_eq_true rfl⟩ ⟨Nat.le_of_ble_eq_true rfl, Nat.le_of_ble_eq_true rfl⟩ (Nat.le_of_ble_eq_true rfl) dX9_reads_122) fun x122 => ?_
    refine v_iconst (x := (-1 : Int32)) hc dX9_reads_125 zi_m1 ?_
    refine v_icmp_eq hc 139 dX9_reads_126 rfl ?_ ?_
    · refine v_sub (L' := [(0, .ref v0), (1, .int v1)]) [0, 1] rfl ?_
      exact vl9_reads_139 hc hr hq hL x122.2 v0 v1
    · refine v_aload_n (i := 0) hc 0 rfl dX9_reads_129 rfl ?_
      refine v_iconst (x := (0 : Int32)) hc dX9_reads_130 zi_0 ?_
      refine v_aload_n (i := 0) hc 0 rfl dX9_reads_131 rfl ?_
      refine v_getV hc kX9 16 (by decide) w_1147 rfl dX9_reads_132 (gI rfl fun x132 => ?_)
      refine v_cwB hc (m_V' (As := [.int (0 : Int32), .int x132]) (b := v0) (rest := []) 2 hc hr (fun l D tys base => ct9_fails l D tys base x122.2 v0 (0 : Int32) x132) (fun x hx => ob9_fails hx) rfl s9_fails w_1386 rfl ⟨Nat.le_of_ble_eq_true rfl, Nat.le_of_ble_eq_true rfl⟩ ⟨Nat.le_of_ble_eq_true rfl, Nat.le_of_ble_eq_true rfl⟩ (Nat.le_of_ble_eq_true rfl) dX9_reads_135) fun x135 => ?_
      refine v_pop hc dX9_reads_138 rfl ?_
      refine v_sub (L' := [(0, .ref v0), (1, .int v1)]) [0, 1] rfl ?_
      exact vl9_reads_139 hc hr hq hL x135.2 v0 v1
def f9_reads_86 (v0 : Nat) (v1 : Int32) : Nat → AH → Bool → Option (Int32 × AH)
  | 0, _, _ => none
  | n + 1, h, v2 => (if v2 = true then (f9_see h v0).bind fun x91 => (if x91.1 = (59 : Int32) then (fI 9 16 x91.2 v0).bind fun x101 => (fS 9 16 x91.2 v0 (.int (x101 + (1 : Int32)))).bind fun h106 => (f9_clauseHere h106 v0).bind fun x110 => f9_reads_86 v0 v1 n x110.2 x110.1 else f9_reads_117 x91.2 v0 v1 v2) else f9_reads_117 h v0 v1 v2)
set_option maxRecDepth 100000 in
theorem vl9_reads_86 {κ : Kx} (hc : CX κ RX9 cX9_reads) (hr : RX κ ({ frames := 11, cells := 0, slots := 0, locals := 241 } : Room)) (hq : QX κ (some .int) 0 0) (hL : 3 = κ.2.2.2.2.1)  (v0 : Nat) (v1 : Int32) : ∀ n (h : AH) (v2 : Bool), V κ (wI) 0 0 86 [(0, .ref v0), (1, .int v1), (2, .int (bI v2))] [] h (f9_reads_86 v0 v1 n h v2) := by
  have hn : ∀ i, i < 3 → i < κ.2.2.2.2.1 := fun i q => hL ▸ q
  intro n
  induction n with
  | zero => intros; exact v_none
  | succ n ih =>
    intro h v2
    rw [f9_reads_86.eq_2]
    refine v_iload_n (i := 2) hc 2 rfl dX9_reads_86 rfl ?_
    refine v_ifb_eq hc 117 dX9_reads_87 rfl ?_ ?_
    · refine v_sub (L' := [(0, .ref v0), (1, .int v1), (2, .int (bI v2))]) [0, 1, 2] rfl ?_
      exact vl9_reads_117 hc hr hq hL h v0 v1 v2
    · refine v_aload_n (i := 0) hc 0 rfl dX9_reads_90 rfl ?_
      refine v_cwI hc (m_V' (As := []) (b := v0) (rest := []) 0 hc hr (fun l D tys base => ct9_see l D tys base h v0) (fun x hx => ob9_see hx) rfl s9_see w_1367 rfl ⟨Nat.le_of_ble_eq_true rfl, Nat.le_of_ble_eq_true rfl⟩ ⟨Nat.le_of_ble_eq_true rfl, Nat.le_of_ble_eq_true rfl⟩ (Nat.le_of_ble_eq_true rfl) dX9_reads_91) fun x91 => ?_
      refine v_bipush (x := (59 : Int32)) hc dX9_reads_94 zb_59 ?_
      refine v_icmp_ne hc 117 dX9_reads_96 rfl ?_ ?_
      · refine v_sub (L' := [(0, .ref v0), (1, .int v1), (2, .int (bI v2))]) [0, 1, 2] rfl ?_
        exact vl9_reads_117 hc hr hq hL x91.2 v0 v1 v2
      · refine v_aload_n (i := 0) hc 0 rfl dX9_reads_99 rfl ?_
        refine v_dup hc dX9_reads_100 rfl ?_
        refine v_getV hc kX9 16 (by decide) w_1147 rfl dX9_reads_101 (gI rfl fun x101 => ?_)
        refine v_iconst (x := (1 : Int32)) hc dX9_reads_104 zi_1 ?_
        refine v_iadd hc dX9_reads_105 ?_
        refine v_put hc kX9 16 (by decide) w_1147 rfl rfl dX9_reads_106 ⟨rfl, rfl⟩ fun h106 => ?_
        refine v_aload_n (i := 0) hc 0 rfl dX9_reads_109 rfl ?_
        refine v_cwB hc (m_V' (As := []) (b := v0) (rest := []) 0 hc hr (fun l D tys base => ct9_clauseHere l D tys base h106 v0) (fun x hx => ob9_clauseHere hx) rfl s9_clauseHere w_1363 rfl ⟨Nat.le_of_ble_eq_true rfl, Nat.le_of_ble_eq_true rfl⟩ ⟨Nat.le_of_ble_eq_true rfl, Nat.le_of_ble_eq_true rfl⟩ (Nat.le_of_ble_eq_true rfl) dX9_reads_110) fun x110 => ?_
        refine v_istore_n (i := 2) (L' := [(2, .int (bI x110.1)), (0, .ref v0), (1, .int v1)]) hc dX9_reads_113 rfl (hn 2 (Nat.le_of_ble_eq_true rfl)) rfl ?_
        refine v_goto hc 86 dX9_reads_114 rfl ?_
        refine v_sub (L' := [(0, .ref v0), (1, .int v1), (2, .int (bI x110.1))]) [1, 2, 0] rfl ?_
        exact ih x110.2 x110.1
def f9_reads (h : AH) (this : Nat) (p0 : Int32) : Option (Int32 × AH) := (hObj 9 h this).bind fun _ => (fS 9 19 h this (.int p0)).bind fun h2 => (fR 9 4 h2 this).bind fun x6 => (sI 0 h2 x6 p0 (0 : Int32)).bind fun h11 => (fR 9 6 h11 this).bind fun x13 => (sI 0 h11 x13 p0 (0 : Int32)).bind fun h18 => (fR 9 12 h18 this).bind fun x20 => (sI 0 h18 x20 p0 (0 : Int32)).bind fun h25 => (fR 9 13 h25 this).bind fun x27 => (sI 0 h25 x27 p0 (0 : Int32)).bind fun h32 => (fR 9 7 h32 this).bind fun x34 => (sI 0 h32 x34 p0 (-1 : Int32)).bind fun h39 => (fR 9 8 h39 this).bind fun x41 => (sI 0 h39 x41 p0 (-1 : Int32)).bind fun h46 => (fR 9 9 h46 this).bind fun x48 => (sI 0 h46 x48 p0 (-1 : Int32)).bind fun h53 => (fR 9 10 h53 this).bind fun x55 => (sI 0 h53 x55 p0 (-1 : Int32)).bind fun h60 => (fS 9 22 h60 this (.int (0 : Int32))).bind fun h63 => (fS 9 16 h63 this (.int (0 : Int32))).bind fun h68 => (fS 9 17 h68 this (.int (0 : Int32))).bind fun h73 => (fS 9 20 h73 this (.int (0 : Int32))).bind fun h78 => (f9_clauseHere h78 this).bind fun x82 => f9_reads_86 this p0 FU x82.2 x82.1
theorem ob9_reads {h : AH} {this : Nat} {p0 : Int32} {x : Int32 × AH} (e : f9_reads h this p0 = some x) : ∃ fs, hObj 9 h this = some fs := by
  unfold f9_reads at e
  obtain ⟨fs, h1, -⟩ := bd e
  exact ⟨fs, h1⟩
set_option maxRecDepth 100000 in
theorem ct9_reads (l : Launch) (D : va_G) (tys : Tys) (base : Nat) (h : AH) (this : Nat) (p0 : Int32) : Ct l D tys base yX9_reads cX9_reads 3 (some .int) 11 241 0 0 [.ref this, .int p0] h (wI) (f9_reads h this p0) := by
  refine Ct.intro (own := RX9) (L := [(0, .ref this), (1, .int p0)]) rfl (by decide) rfl (Nat.le_of_ble_eq_true rfl) fun κ hc hr hq hi hL => ?_
  have hn : ∀ i, i < 3 → i < κ.2.2.2.2.1 := fun i q => hL ▸ q
  unfold f9_reads
  refine v_obj ?_
  refine v_aload_n (i := 0) hc 0 rfl dX9_reads_0 rfl ?_
  refine v_iload_n (i := 1) hc 1 rfl dX9_reads_1 rfl ?_
  refine v_put hc kX9 19 (by decide) w_1150 rfl rfl dX9_reads_2 ⟨rfl, rfl⟩ fun h2 => ?_
  refine v_aload_n (i := 0) hc 0 rfl dX9_reads_5 rfl ?_
  refine v_getV hc kX9 4 (by decide) w_1135 rfl dX9_reads_6 (gR rfl fun x6 => ?_)
  refine v_iload_n (i := 1) hc 1 rfl dX9_reads_9 rfl ?_
  refine v_iconst (x := (0 : Int32)) hc dX9_reads_10 zi_0 ?_
  refine v_iast hc dX9_reads_11 fun h11 => ?_
  refine v_aload_n (i := 0) hc 0 rfl dX9_reads_12 rfl ?_
  refine v_getV hc kX9 6 (by decide) w_1137 rfl dX9_reads_13 (gR rfl fun x13 => ?_)
  refine v_iload_n (i := 1) hc 1 rfl dX9_reads_16 rfl ?_
  refine v_iconst (x := (0 : Int32)) hc dX9_reads_17 zi_0 ?_
  refine v_iast hc dX9_reads_18 fun h18 => ?_
  refine v_aload_n (i := 0) hc 0 rfl dX9_reads_19 rfl ?_
  refine v_getV hc kX9 12 (by decide) w_1143 rfl dX9_reads_20 (gR rfl fun x20 => ?_)
  refine v_iload_n (i := 1) hc 1 rfl dX9_reads_23 rfl ?_
  refine v_iconst (x := (0 : Int32)) hc dX9_reads_24 zi_0 ?_
  refine v_iast hc dX9_reads_25 fun h25 => ?_
  refine v_aload_n (i := 0) hc 0 rfl dX9_reads_26 rfl ?_
  refine v_getV hc kX9 13 (by decide) w_1144 rfl dX9_reads_27 (gR rfl fun x27 => ?_)
  refine v_iload_n (i := 1) hc 1 rfl dX9_reads_30 rfl ?_
  refine v_iconst (x := (0 : Int32)) hc dX9_reads_31 zi_0 ?_
  refine v_iast hc dX9_reads_32 fun h32 => ?_
  refine v_aload_n (i := 0) hc 0 rfl dX9_reads_33 rfl ?_
  refine v_getV hc kX9 7 (by decide) w_1138 rfl dX9_reads_34 (gR rfl fun x34 => ?_)
  refine v_iload_n (i := 1) hc 1 rfl dX9_reads_37 rfl ?_
  refine v_iconst (x := (-1 : Int32)) hc dX9_reads_38 zi_m1 ?_
  refine v_iast hc dX9_reads_39 fun h39 => ?_
  refine v_aload_n (i := 0) hc 0 rfl dX9_reads_40 rfl ?_
  refine v_getV hc kX9 8 (by decide) w_1139 rfl dX9_reads_41 (gR rfl fun x41 => ?_)
  refine v_iload_n (i := 1) hc 1 rfl dX9_reads_44 rfl ?_
  refine v_iconst (x := (-1 : Int32)) hc dX9_reads_45 zi_m1 ?_
  refine v_iast hc dX9_reads_46 fun h46 => ?_
  refine v_aload_n (i := 0) hc 0 rfl dX9_reads_47 rfl ?_
  refine v_getV hc kX9 9 (by decide) w_1140 rfl dX9_reads_48 (gR rfl fun x48 => ?_)
  refine v_iload_n (i := 1) hc 1 rfl dX9_reads_51 rfl ?_
  refine v_iconst (x := (-1 : Int32)) hc dX9_reads_52 zi_m1 ?_
  refine v_iast hc dX9_reads_53 fun h53 => ?_
  refine v_aload_n (i := 0) hc 0 rfl dX9_reads_54 rfl ?_
  refine v_getV hc kX9 10 (by decide) w_1141 rfl dX9_reads_55 (gR rfl fun x55 => ?_)
  refine v_iload_n (i := 1) hc 1 rfl dX9_reads_58 rfl ?_
  refine v_iconst (x := (-1 : Int32)) hc dX9_reads_59 zi_m1 ?_
  refine v_iast hc dX9_reads_60 fun h60 => ?_
  refine v_aload_n (i := 0) hc 0 rfl dX9_reads_61 rfl ?_
  refine v_iconst (x := (0 : Int32)) hc dX9_reads_62 zi_0 ?_
  refine v_put hc kX9 22 (by decide) w_1153 rfl rfl dX9_reads_63 ⟨rfl, rfl⟩ fun h63 => ?_
  refine v_aload_n (i := 0) hc 0 rfl dX9_reads_66 rfl ?_
  refine v_iconst (x := (0 : Int32)) hc dX9_reads_67 zi_0 ?_
  refine v_put hc kX9 16 (by decide) w_1147 rfl rfl dX9_reads_68 ⟨rfl, rfl⟩ fun h68 => ?_
  refine v_aload_n (i := 0) hc 0 rfl dX9_reads_71 rfl ?_
  refine v_iconst (x := (0 : Int32)) hc dX9_reads_72 zi_0 ?_
  refine v_put hc kX9 17 (by decide) w_1148 rfl rfl dX9_reads_73 ⟨rfl, rfl⟩ fun h73 => ?_
  refine v_aload_n (i := 0) hc 0 rfl dX9_reads_76 rfl ?_
  refine v_iconst (x := (0 : Int32)) hc dX9_reads_77 zi_0 ?_
  refine v_put hc kX9 20 (by decide) w_1151 rfl rfl dX9_reads_78 ⟨rfl, rfl⟩ fun h78 => ?_
  refine v_aload_n (i := 0) hc 0 rfl dX9_reads_81 rfl ?_
  refine v_cwB hc (m_V' (As := []) (b := this) (rest := []) 0 hc hr (fun l D tys base => ct9_clauseHere l D tys base h78 this) (fun x hx => ob9_clauseHere hx) rfl s9_clauseHere w_1363 rfl ⟨Nat.le_of_ble_eq_true rfl, Nat.le_of_ble_eq_true rfl⟩ ⟨Nat.le_of_ble_eq_true rfl, Nat.le_of_ble_eq_true rfl⟩ (Nat.le_of_ble_eq_true rfl) dX9_reads_82) fun x82 => ?_
  refine v_istore_n (i := 2) (L' := [(2, .int (bI x82.1)), (0, .ref this), (1, .int p0)]) hc dX9_reads_85 rfl (hn 2 (Nat.le_of_ble_eq_true rfl)) rfl ?_
  refine v_sub (L' := [(0, .ref this), (1, .int p0), (2, .int (bI x82.1))]) [1, 2, 0] rfl ?_
  exact vl9_reads_86 hc hr hq hL this p0 FU x82.2 x82.1
theorem s9_reads : YV yX9_reads RX9 cX9_reads 3 (some .int) 1 := ⟨w_1362, w_1361, w_62, w_118, rfl, by decide +kernel, by decide +kernel, by decide +kernel⟩
def f9_reader (h : AH) (this : Nat) : Option (Int32 × AH) := (hObj 9 h this).bind fun _ => (fI 9 14 h this).bind fun x1 => (if x1 = (8 : Int32) then some ((-1 : Int32), h) else (fI 9 14 h this).bind fun x13 => (f9_reads h this x13).bind fun x16 => (if x16.1 ≤ 0 then (fI 9 14 x16.2 this).bind fun x31 => (fS 9 14 x16.2 this (.int (x31 + (1 : Int32)))).bind fun h36 => (fI 9 14 h36 this).bind fun x40 => some (x40 - (1 : Int32), h36) else some ((-2 : Int32) - x16.1, x16.2)))
theorem ob9_reader {h : AH} {this : Nat} {x : Int32 × AH} (e : f9_reader h this = some x) : ∃ fs, hObj 9 h this = some fs := by
  unfold f9_reader at e
  obtain ⟨fs, h1, -⟩ := bd e
  exact ⟨fs, h1⟩
set_option maxRecDepth 100000 in
theorem ct9_reader (l : Launch) (D : va_G) (tys : Tys) (base : Nat) (h : AH) (this : Nat) : Ct l D tys base yX9_reader cX9_reader 2 (some .int) 12 263 0 0 [.ref this] h (wI) (f9_reader h this) := by
  refine Ct.intro (own := RX9) (L := [(0, .ref this)]) rfl (by decide) rfl (Nat.le_of_ble_eq_true rfl) fun κ hc hr hq hi hL => ?_
  have hn : ∀ i, i < 2 → i < κ.2.2.2.2.1 := fun i q => hL ▸ q
  unfold f9_reader
  refine v_obj ?_
  refine v_aload_n (i := 0) hc 0 rfl dX9_reader_0 rfl ?_
  refine v_getV hc kX9 14 (by decide) w_1145 rfl dX9_reader_1 (gI rfl fun x1 => ?_)
  refine v_bipush (x := (8 : Int32)) hc dX9_reader_4 zb_8 ?_
  refine v_icmp_ne hc 11 dX9_reader_6 rfl ?_ ?_
  · refine v_aload_n (i := 0) hc 0 rfl dX9_reader_11 rfl ?_
    refine v_aload_n (i := 0) hc 0 rfl dX9_reader_12 rfl ?_
    refine v_getV hc kX9 14 (by decide) w_1145 rfl dX9_reader_13 (gI rfl fun x13 => ?_)
    refine v_cwI hc (m_V' (As := [.int x13]) (b := this) (rest := []) 1 hc hr (fun l D tys base => ct9_reads l D tys base h this x13) (fun x hx => ob9_reads hx) rfl s9_reads w_1359 rfl ⟨Nat.le_of_ble_eq_true rfl, Nat.le_of_ble_eq_true rfl⟩ ⟨Nat.le_of_ble_eq_true rfl, Nat.le_of_ble_eq_true rfl⟩ (Nat.le_of_ble_eq_true rfl) dX9_reader_16) fun x16 => ?_
    refine v_istore_n (i := 1) (L' := [(1, .int x16.1), (0, .ref this)]) hc dX9_reader_19 rfl (hn 1 (Nat.le_of_ble_eq_true rfl)) rfl ?_
    refine v_iload_n (i := 1) hc 0 rfl dX9_reader_20 rfl ?_
    refine v_if_le hc 29 dX9_reader_21 rfl ?_ ?_
    · refine v_aload_n (i := 0) hc 1 rfl dX9_reader_29 rfl ?_
      refine v_dup hc dX9_reader_30 rfl ?_
      refine v_getV hc kX9 14 (by decide) w_1145 rfl dX9_reader_31 (gI rfl fun x31 => ?_)
      refine v_iconst (x := (1 : Int32)) hc dX9_reader_34 zi_1 ?_
      refine v_iadd hc dX9_reader_35 ?_
      refine v_put hc kX9 14 (by decide) w_1145 rfl rfl dX9_reader_36 ⟨rfl, rfl⟩ fun h36 => ?_
      refine v_aload_n (i := 0) hc 1 rfl dX9_reader_39 rfl ?_
      refine v_getV hc kX9 14 (by decide) w_1145 rfl dX9_reader_40 (gI rfl fun x40 => ?_)
      refine v_iconst (x := (1 : Int32)) hc dX9_reader_43 zi_1 ?_
      refine v_isub hc dX9_reader_44 ?_
      exact v_iret hc hq rfl rfl (Nat.le_of_ble_eq_true rfl) (Nat.le_of_ble_eq_true rfl) rfl dX9_reader_45
    · refine v_bipush (x := (-2 : Int32)) hc dX9_reader_24 zb_m2 ?_
      refine v_iload_n (i := 1) hc 0 rfl dX9_reader_26 rfl ?_
      refine v_isub hc dX9_reader_27 ?_
      exact v_iret hc hq rfl rfl (Nat.le_of_ble_eq_true rfl) (Nat.le_of_ble_eq_true rfl) rfl dX9_reader_28
  · refine v_iconst (x := (-1 : Int32)) hc dX9_reader_9 zi_m1 ?_
    exact v_iret hc hq rfl rfl (Nat.le_of_ble_eq_true rfl) (Nat.le_of_ble_eq_true rfl) rfl dX9_reader_10
theorem s9_reader : YV yX9_reader RX9 cX9_reader 2 (some .int) 0 := ⟨w_1358, w_1356, w_1357, w_118, rfl, by decide +kernel, by decide +kernel, by decide +kernel⟩
def f9_maker (h : AH) (this : Nat) : Option (Int32 × AH) := (hObj 9 h this).bind fun _ => (fI 9 15 h this).bind fun x1 => (if x1 = (6 : Int32) then some ((-1 : Int32), h) else (fI 9 15 h this).bind fun x15 => (f9_reads h this ((8 : Int32) + x15)).bind fun x19 => (if x19.1 ≤ 0 then (fI 9 15 x19.2 this).bind fun x34 => (fS 9 15 x19.2 this (.int (x34 + (1 : Int32)))).bind fun h39 => (fI 9 15 h39 this).bind fun x43 => some (x43 - (1 : Int32), h39) else some ((-2 : Int32) - x19.1, x19.2)))
theorem ob9_maker {h : AH} {this : Nat} {x : Int32 × AH} (e : f9_maker h this = some x) : ∃ fs, hObj 9 h this = some fs := by
  unfold f9_maker at e
  obtain ⟨fs, h1, -⟩ := bd e
  exact ⟨fs, h1⟩
set_option maxRecDepth 100000 in
theorem ct9_maker (l : Launch) (D : va_G) (tys : Tys) (base : Nat) (h : AH) (this : Nat) : Ct l D tys base yX9_maker cX9_maker 2 (some .int) 12 263 0 0 [.ref this] h (wI) (f9_maker h this) := by
  refine Ct.intro (own := RX9) (L := [(0, .ref this)]) rfl (by decide) rfl (Nat.le_of_ble_eq_true rfl) fun κ hc hr hq hi hL => ?_
  have hn : ∀ i, i < 2 → i < κ.2.2.2.2.1 := fun i q => hL ▸ q
  unfold f9_maker
  refine v_obj ?_
  refine v_aload_n (i := 0) hc 0 rfl dX9_maker_0 rfl ?_
  refine v_getV hc kX9 15 (by decide) w_1146 rfl dX9_maker_1 (gI rfl fun x1 => ?_)
  refine v_bipush (x := (6 : Int32)) hc dX9_maker_4 zb_6 ?_
  refine v_icmp_ne hc 11 dX9_maker_6 rfl ?_ ?_
  · refine v_aload_n (i := 0) hc 0 rfl dX9_maker_11 rfl ?_
    refine v_bipush (x := (8 : Int32)) hc dX9_maker_12 zb_8 ?_
    refine v_aload_n (i := 0) hc 0 rfl dX9_maker_14 rfl ?_
    refine v_getV hc kX9 15 (by decide) w_1146 rfl dX9_maker_15 (gI rfl fun x15 => ?_)
    refine v_iadd hc dX9_maker_18 ?_
    refine v_cwI hc (m_V' (As := [.int ((8 : Int32) + x15)]) (b := this) (rest := []) 1 hc hr (fun l D tys base => ct9_reads l D tys base h this ((8 : Int32) + x15)) (fun x hx => ob9_reads hx) rfl s9_reads w_1359 rfl ⟨Nat.le_of_ble_eq_true rfl, Nat.le_of_ble_eq_true rfl⟩ ⟨Nat.le_of_ble_eq_true rfl, Nat.le_of_ble_eq_true rfl⟩ (Nat.le_of_ble_eq_true rfl) dX9_maker_19) fun x19 => ?_
    refine v_istore_n (i := 1) (L' := [(1, .int x19.1), (0, .ref this)]) hc dX9_maker_22 rfl (hn 1 (Nat.le_of_ble_eq_true rfl)) rfl ?_
    refine v_iload_n (i := 1) hc 0 rfl dX9_maker_23 rfl ?_
    refine v_if_le hc 32 dX9_maker_24 rfl ?_ ?_
    · refine v_aload_n (i := 0) hc 1 rfl dX9_maker_32 rfl ?_
      refine v_dup hc dX9_maker_33 rfl ?_
      refine v_getV hc kX9 15 (by decide) w_1146 rfl dX9_maker_34 (gI rfl fun x34 => ?_)
      refine v_iconst (x := (1 : Int32)) hc dX9_maker_37 zi_1 ?_
      refine v_iadd hc dX9_maker_38 ?_
      refine v_put hc kX9 15 (by decide) w_1146 rfl rfl dX9_maker_39 ⟨rfl, rfl⟩ fun h39 => ?_
      refine v_aload_n (i := 0) hc 1 rfl dX9_maker_42 rfl ?_
      refine v_getV hc kX9 15 (by decide) w_1146 rfl dX9_maker_43 (gI rfl fun x43 => ?_)
      refine v_iconst (x := (1 : Int32)) hc dX9_maker_46 zi_1 ?_
      refine v_isub hc dX9_maker_47 ?_
      exact v_iret hc hq rfl rfl (Nat.le_of_ble_eq_true rfl) (Nat.le_of_ble_eq_true rfl) rfl dX9_maker_48
    · refine v_bipush (x := (-2 : Int32)) hc dX9_maker_27 zb_m2 ?_
      refine v_iload_n (i := 1) hc 0 rfl dX9_maker_29 rfl ?_
      refine v_isub hc dX9_maker_30 ?_
      exact v_iret hc hq rfl rfl (Nat.le_of_ble_eq_true rfl) (Nat.le_of_ble_eq_true rfl) rfl dX9_maker_31
  · refine v_iconst (x := (-1 : Int32)) hc dX9_maker_9 zi_m1 ?_
    exact v_iret hc hq rfl rfl (Nat.le_of_ble_eq_true rfl) (Nat.le_of_ble_eq_true rfl) rfl dX9_maker_10
theorem s9_maker : YV yX9_maker RX9 cX9_maker 2 (some .int) 0 := ⟨w_1495, w_1493, w_1494, w_118, rfl, by decide +kernel, by decide +kernel, by decide +kernel⟩
def f9_isReader (h : AH) (this : Nat) (p0 : Int32) : Option (Bool) := (hObj 9 h this).bind fun _ => (if p0 < 0 then some false else (fI 9 14 h this).bind fun x6 => (if x6 ≤ p0 then some false else some true))
theorem ob9_isReader {h : AH} {this : Nat} {p0 : Int32} {x : Bool} (e : f9_isReader h this p0 = some x) : ∃ fs, hObj 9 h this = some fs := by
  unfold f9_isReader at e
  obtain ⟨fs, h1, -⟩ := bd e
  exact ⟨fs, h1⟩
set_option maxRecDepth 100000 in
theorem ct9_isReader (l : Launch) (D : va_G) (tys : Tys) (base : Nat) (h : AH) (this : Nat) (p0 : Int32) : Ct l D tys base yX9_isReader cX9_isReader 2 (some .boolean) 0 0 0 0 [.ref this, .int p0] h (rB h) (f9_isReader h this p0) := by
  refine Ct.intro (own := RX9) (L := [(0, .ref this), (1, .int p0)]) rfl (by decide) rfl (Nat.le_of_ble_eq_true rfl) fun κ hc hr hq hi hL => ?_
  have hn : ∀ i, i < 2 → i < κ.2.2.2.2.1 := fun i q => hL ▸ q
  unfold f9_isReader
  refine v_obj ?_
  refine v_iload_n (i := 1) hc 1 rfl dX9_isReader_0 rfl ?_
  refine v_if_lt hc 16 dX9_isReader_1 rfl ?_ ?_
  · refine v_iconst (x := (0 : Int32)) hc dX9_isReader_16 zi_0 ?_
    exact v_iret (v := bI false) hc hq rfl (nar_b false) (Nat.le_of_ble_eq_true rfl) (Nat.le_of_ble_eq_true rfl) rfl dX9_isReader_17
  · refine v_iload_n (i := 1) hc 1 rfl dX9_isReader_4 rfl ?_
    refine v_aload_n (i := 0) hc 0 rfl dX9_isReader_5 rfl ?_
    refine v_getV hc kX9 14 (by decide) w_1145 rfl dX9_isReader_6 (gI rfl fun x6 => ?_)
    refine v_icmp_ge hc 16 dX9_isReader_9 rfl ?_ ?_
    · refine v_iconst (x := (0 : Int32)) hc dX9_isReader_16 zi_0 ?_
      exact v_iret (v := bI false) hc hq rfl (nar_b false) (Nat.le_of_ble_eq_true rfl) (Nat.le_of_ble_eq_true rfl) rfl dX9_isReader_17
    · refine v_iconst (x := (1 : Int32)) hc dX9_isReader_12 zi_1 ?_
      refine v_goto hc 17 dX9_isReader_13 rfl ?_
      exact v_iret (v := bI true) hc hq rfl (nar_b true) (Nat.le_of_ble_eq_true rfl) (Nat.le_of_ble_eq_true rfl) rfl dX9_isReader_17
theorem s9_isReader : YV yX9_isReader RX9 cX9_isReader 2 (some .boolean) 1 := ⟨w_1503, w_1502, w_89, w_118, rfl, by decide +kernel, by decide +kernel, by decide +kernel⟩
def f9_areTwo (h : AH) (this : Nat) (p0 : Int32) (p1 : Int32) : Option (Bool) := (hObj 9 h this).bind fun _ => (f9_isPiece h this p0).bind fun x2 => (if x2 = true then (f9_isPiece h this p1).bind fun x10 => (if x10 = true then (if p0 = p1 then some false else some true) else some false) else some false)
theorem ob9_areTwo {h : AH} {this : Nat} {p0 : Int32} {p1 : Int32} {x : Bool} (e : f9_areTwo h this p0 p1 = some x) : ∃ fs, hObj 9 h this = some fs := by
  unfold f9_areTwo at e
  obtain ⟨fs, h1, -⟩ := bd e
  exact ⟨fs, h1⟩
set_option maxRecDepth 100000 in
theorem ct9_areTwo (l : Launch) (D : va_G) (tys : Tys) (base : Nat) (h : AH) (this : Nat) (p0 : Int32) (p1 : Int32) : Ct l D tys base yX9_areTwo cX9_areTwo 3 (some .boolean) 1 21 0 0 [.ref this, .int p0, .int p1] h (rB h) (f9_areTwo h this p0 p1) := by
  refine Ct.intro (own := RX9) (L := [(0, .ref this), (1, .int p0), (2, .int p1)]) rfl (by decide) rfl (Nat.le_of_ble_eq_true rfl) fun κ hc hr hq hi hL => ?_
  have hn : ∀ i, i < 3 → i < κ.2.2.2.2.1 := fun i q => hL ▸ q
  unfold f9_areTwo
  refine v_obj ?_
  refine v_aload_n (i := 0) hc 0 rfl dX9_areTwo_0 rfl ?_
  refine v_iload_n (i := 1) hc 1 rfl dX9_areTwo_1 rfl ?_
  refine v_cB hc (m_V' (As := [.int p0]) (b := this) (rest := []) 1 hc hr (fun l D tys base => ct9_isPiece l D tys base h this p0) (fun x hx => ob9_isPiece hx) rfl s9_isPiece w_1286 rfl ⟨Nat.le_of_ble_eq_true rfl, Nat.le_of_ble_eq_true rfl⟩ ⟨Nat.le_of_ble_eq_true rfl, Nat.le_of_ble_eq_true rfl⟩ (Nat.le_of_ble_eq_true rfl) dX9_areTwo_2) fun x2 => ?_
  refine v_ifb_eq hc 25 dX9_areTwo_5 rfl ?_ ?_
  · refine v_iconst (x := (0 : Int32)) hc dX9_areTwo_25 zi_0 ?_
    exact v_iret (v := bI false) hc hq rfl (nar_b false) (Nat.le_of_ble_eq_true rfl) (Nat.le_of_ble_eq_true rfl) rfl dX9_areTwo_26
  · refine v_aload_n (i := 0) hc 0 rfl dX9_areTwo_8 rfl ?_
    refine v_iload_n (i := 2) hc 2 rfl dX9_areTwo_9 rfl ?_
    refine v_cB hc (m_V' (As := [.int p1]) (b := this) (rest := []) 1 hc hr (fun l D tys base => ct9_isPiece l D tys base h this p1) (fun x hx => ob9_isPiece hx) rfl s9_isPiece w_1286 rfl ⟨Nat.le_of_ble_eq_true rfl, Nat.le_of_ble_eq_true rfl⟩ ⟨Nat.le_of_ble_eq_true rfl, Nat.le_of_ble_eq_true rfl⟩ (Nat.le_of_ble_eq_true rfl) dX9_areTwo_10) fun x10 => ?_
    refine v_ifb_eq hc 25 dX9_areTwo_13 rfl ?_ ?_
    · refine v_iconst (x := (0 : Int32)) hc dX9_areTwo_25 zi_0 ?_
      exact v_iret (v := bI false) hc hq rfl (nar_b false) (Nat.le_of_ble_eq_true rfl) (Nat.le_of_ble_eq_true rfl) rfl dX9_areTwo_26
    · refine v_iload_n (i := 1) hc 1 rfl dX9_areTwo_16 rfl ?_
      refine v_iload_n (i := 2) hc 2 rfl dX9_areTwo_17 rfl ?_
      refine v_icmp_eq hc 25 dX9_areTwo_18 rfl ?_ ?_
      · refine v_iconst (x := (0 : Int32)) hc dX9_areTwo_25 zi_0 ?_
        exact v_iret (v := bI false) hc hq rfl (nar_b false) (Nat.le_of_ble_eq_true rfl) (Nat.le_of_ble_eq_true rfl) rfl dX9_areTwo_26
      · refine v_iconst (x := (1 : Int32)) hc dX9_areTwo_21 zi_1 ?_
        refine v_goto hc 26 dX9_areTwo_22 rfl ?_
        exact v_iret (v := bI true) hc hq rfl (nar_b true) (Nat.le_of_ble_eq_true rfl) (Nat.le_of_ble_eq_true rfl) rfl dX9_areTwo_26
theorem s9_areTwo : YV yX9_areTwo RX9 cX9_areTwo 3 (some .boolean) 2 := ⟨w_1507, w_1506, w_90, w_118, rfl, by decide +kernel, by decide +kernel, by decide +kernel⟩
def f9_late_4 (h : AH) (v0 : Nat) (v1 : Int32) : Nat → Int32 → Int32 → Option (Int32)
  | 0, _, _ => none
  | n + 1, v2, v3 => (fR 9 0 h v0).bind fun x6 => (aI 0 h x6 (1 : Int32)).bind fun x10 => (if x10 ≤ v3 then some v2 else (fR 9 0 h v0).bind fun x15 => (aI 0 h x15 ((10 : Int32) + ((2 : Int32) * v3))).bind fun x24 => (f9_age h v0 v1).bind fun x27 => (some (x24 - x27)).bind fun x31 => (f9_pieceCell h v0 v1 (6 : Int32)).bind fun x37 => (if ((x37 >>> (v3 &&& 31)) &&& (1 : Int32)) = (1 : Int32) then (if x31 ≤ v2 then (some (v3 + (1 : Int32))).bind fun x61 => f9_late_4 h v0 v1 n v2 x61 else (some (v3 + (1 : Int32))).bind fun x61 => f9_late_4 h v0 v1 n x31 x61) else (some (v3 + (1 : Int32))).bind fun x61 => f9_late_4 h v0 v1 n v2 x61))
set_option maxRecDepth 100000 in
theorem vl9_late_4 {κ : Kx} (hc : CX κ RX9 cX9_late) (hr : RX κ ({ frames := 1, cells := 0, slots := 0, locals := 23 } : Room)) (hq : QX κ (some .int) 0 0) (hL : 5 = κ.2.2.2.2.1)  (h : AH) (v0 : Nat) (v1 : Int32) : ∀ n (v2 : Int32) (v3 : Int32), V κ (rI h) 0 0 4 [(0, .ref v0), (1, .int v1), (2, .int v2), (3, .int v3)] [] h (f9_late_4 h v0 v1 n v2 v3) := by
  have hn : ∀ i, i < 5 → i < κ.2.2.2.2.1 := fun i q => hL ▸ q
  intro n
  induction n with
  | zero => intros; exact v_none
  | succ n ih =>
    intro v2 v3
    rw [f9_late_4.eq_2]
    refine v_iload_n (i := 3) hc 3 rfl dX9_late_4 rfl ?_
    refine v_aload_n (i := 0) hc 0 rfl dX9_late_5 rfl ?_
    refine v_getV hc kX9 0 (by decide) w_1131 rfl dX9_late_6 (gR rfl fun x6 => ?_)
    refine v_iconst (x := (1 : Int32)) hc dX9_late_9 zi_1 ?_
    refine v_iald hc dX9_late_10 fun x10 => ?_
    refine v_icmp_ge hc 67 dX9_late_11 rfl ?_ ?_
    · refine v_iload_n (i := 2) hc 2 rfl dX9_late_67 rfl ?_
      exact v_iret hc hq rfl rfl (Nat.le_of_ble_eq_true rfl) (Nat.le_of_ble_eq_true rfl) rfl dX9_late_68
    · refine v_aload_n (i := 0) hc 0 rfl dX9_late_14 rfl ?_
      refine v_getV hc kX9 0 (by decide) w_1131 rfl dX9_late_15 (gR rfl fun x15 => ?_)
      refine v_bipush (x := (10 : Int32)) hc dX9_late_18 zb_10 ?_
      refine v_iconst (x := (2 : Int32)) hc dX9_late_20 zi_2 ?_
      refine v_iload_n (i := 3) hc 3 rfl dX9_late_21 rfl ?_
      refine v_imul hc dX9_late_22 ?_
      refine v_iadd hc dX9_late_23 ?_
      refine v_iald hc dX9_late_24 fun x24 => ?_
      refine v_aload_n (i := 0) hc 0 rfl dX9_late_25 rfl ?_
      refine v_iload_n (i := 1) hc 1 rfl dX9_late_26 rfl ?_
      refine v_cI hc (m_V' (As := [.int v1]) (b := v0) (rest := [.int x24]) 1 hc hr (fun l D tys base => ct9_age l D tys base h v0 v1) (fun x hx => ob9_age hx) rfl s9_age w_1323 rfl ⟨Nat.le_of_ble_eq_true rfl, Nat.le_of_ble_eq_true rfl⟩ ⟨Nat.le_of_ble_eq_true rfl, Nat.le_of_ble_eq_true rfl⟩ (Nat.le_of_ble_eq_true rfl) dX9_late_27) fun x27 => ?_
      refine v_isub hc dX9_late_30 ?_
      refine v_nmI fun x31 => ?_
      refine v_istore (i := 4) (L' := [(4, .int x31), (0, .ref v0), (1, .int v1), (2, .int v2), (3, .int v3)]) hc dX9_late_31 (hn 4 (Nat.le_of_ble_eq_true rfl)) rfl ?_
      refine v_aload_n (i := 0) hc 1 rfl dX9_late_33 rfl ?_
      refine v_iload_n (i := 1) hc 2 rfl dX9_late_34 rfl ?_
      refine v_bipush (x := (6 : Int32)) hc dX9_late_35 zb_6 ?_
      refine v_cI hc (m_V' (As := [.int v1, .int (6 : Int32)]) (b := v0) (rest := []) 2 hc hr (fun l D tys base => ct9_pieceCell l D tys base h v0 v1 (6 : Int32)) (fun x hx => ob9_pieceCell hx) rfl s9_pieceCell w_1327 rfl ⟨Nat.le_of_ble_eq_true rfl, Nat.le_of_ble_eq_true rfl⟩ ⟨Nat.le_of_ble_eq_true rfl, Nat.le_of_ble_eq_true rfl⟩ (Nat.le_of_ble_eq_true rfl) dX9_late_37) fun x37 => ?_
      refine v_iload_n (i := 3) hc 4 rfl dX9_late_40 rfl ?_
      refine v_ishr hc dX9_late_41 ?_
      refine v_iconst (x := (1 : Int32)) hc dX9_late_42 zi_1 ?_
      refine v_iand hc dX9_late_43 ?_
      refine v_iconst (x := (1 : Int32)) hc dX9_late_44 zi_1 ?_
      refine v_icmp_ne hc 59 dX9_late_45 rfl ?_ ?_
      · refine v_iload_n (i := 2) hc 3 rfl dX9_late_59 rfl ?_
        refine v_istore_n (i := 2) (L' := [(2, .int v2), (4, .int x31), (0, .ref v0), (1, .int v1), (3, .int v3)]) hc dX9_late_60 rfl (hn 2 (Nat.le_of_ble_eq_true rfl)) rfl ?_
        refine v_iincN (i := 3) (y := (1 : Int32)) (L' := fun z => [(3, .int z), (2, .int v2), (4, .int x31), (0, .ref v0), (1, .int v1)]) hc 4 rfl dX9_late_61 zi_1 (hn 3 (Nat.le_of_ble_eq_true rfl)) (fun _ => rfl) fun x61 => ?_
        refine v_goto hc 4 dX9_late_64 rfl ?_
        refine v_sub (L' := [(0, .ref v0), (1, .int v1), (2, .int v2), (3, .int x61)]) [3, 4, 1, 0] rfl ?_
        exact ih v2 x61
      · refine v_iload (i := 4) hc 0 rfl dX9_late_48 ?_
        refine v_iload_n (i := 2) hc 3 rfl dX9_late_50 rfl ?_
        refine v_icmp_le hc 59 dX9_late_51 rfl ?_ ?_
        · refine v_iload_n (i := 2) hc 3 rfl dX9_late_59 rfl ?_
          refine v_istore_n (i := 2) (L' := [(2, .int v2), (4, .int x31), (0, .ref v0), (1, .int v1), (3, .int v3)]) hc dX9_late_60 rfl (hn 2 (Nat.le_of_ble_eq_true rfl)) rfl ?_
          refine v_iincN (i := 3) (y := (1 : Int32)) (L' := fun z => [(3, .int z), (2, .int v2), (4, .int x31), (0, .ref v0), (1, .int v1)]) hc 4 rfl dX9_late_61 zi_1 (hn 3 (Nat.le_of_ble_eq_true rfl)) (fun _ => rfl) fun x61 => ?_
          refine v_goto hc 4 dX9_late_64 rfl ?_
          refine v_sub (L' := [(0, .ref v0), (1, .int v1), (2, .int v2), (3, .int x61)]) [3, 4, 1, 0] rfl ?_
          exact ih v2 x61
        · refine v_iload (i := 4) hc 0 rfl dX9_late_54 ?_
          refine v_goto hc 60 dX9_late_56 rfl ?_
          refine v_istore_n (i := 2) (L' := [(2, .int x31), (4, .int x31), (0, .ref v0), (1, .int v1), (3, .int v3)]) hc dX9_late_60 rfl (hn 2 (Nat.le_of_ble_eq_true rfl)) rfl ?_
          refine v_iincN (i := 3) (y := (1 : Int32)) (L' := fun z => [(3, .int z), (2, .int x31), (4, .int x31), (0, .ref v0), (1, .int v1)]) hc 4 rfl dX9_late_61 zi_1 (hn 3 (Nat.le_of_ble_eq_true rfl)) (fun _ => rfl) fun x61 => ?_
          refine v_goto hc 4 dX9_late_64 rfl ?_
          refine v_sub (L' := [(0, .ref v0), (1, .int v1), (2, .int x31), (3, .int x61)]) [3, 4, 1, 0] rfl ?_
          exact ih x31 x61
def f9_late (h : AH) (this : Nat) (p0 : Int32) : Option (Int32) := (hObj 9 h this).bind fun _ => f9_late_4 h this p0 FU (0 : Int32) (0 : Int32)
theorem ob9_late {h : AH} {this : Nat} {p0 : Int32} {x : Int32} (e : f9_late h this p0 = some x) : ∃ fs, hObj 9 h this = some fs := by
  unfold f9_late at e
  obtain ⟨fs, h1, -⟩ := bd e
  exact ⟨fs, h1⟩
set_option maxRecDepth 100000 in
theorem ct9_late (l : Launch) (D : va_G) (tys : Tys) (base : Nat) (h : AH) (this : Nat) (p0 : Int32) : Ct l D tys base yX9_late cX9_late 5 (some .int) 1 23 0 0 [.ref this, .int p0] h (rI h) (f9_late h this p0) := by
  refine Ct.intro (own := RX9) (L := [(0, .ref this), (1, .int p0)]) rfl (by decide) rfl (Nat.le_of_ble_eq_true rfl) fun κ hc hr hq hi hL => ?_
  have hn : ∀ i, i < 5 → i < κ.2.2.2.2.1 := fun i q => hL ▸ q
  unfold f9_late
  refine v_obj ?_
  refine v_iconst (x := (0 : Int32)) hc dX9_late_0 zi_0 ?_
  refine v_istore_n (i := 2) (L' := [(2, .int (0 : Int32)), (0, .ref this), (1, .int p0)]) hc dX9_late_1 rfl (hn 2 (Nat.le_of_ble_eq_true rfl)) rfl ?_
  refine v_iconst (x := (0 : Int32)) hc dX9_late_2 zi_0 ?_
  refine v_istore_n (i := 3) (L' := [(3, .int (0 : Int32)), (2, .int (0 : Int32)), (0, .ref this), (1, .int p0)]) hc dX9_late_3 rfl (hn 3 (Nat.le_of_ble_eq_true rfl)) rfl ?_
  refine v_sub (L' := [(0, .ref this), (1, .int p0), (2, .int (0 : Int32)), (3, .int (0 : Int32))]) [2, 3, 1, 0] rfl ?_
  exact vl9_late_4 hc hr hq hL h this p0 FU (0 : Int32) (0 : Int32)
theorem s9_late : YV yX9_late RX9 cX9_late 5 (some .int) 1 := ⟨w_1515, w_1514, w_92, w_118, rfl, by decide +kernel, by decide +kernel, by decide +kernel⟩
def f9_volumes_4 (h : AH) (v0 : Nat) : Nat → Int32 → Int32 → Option (Int32)
  | 0, _, _ => none
  | n + 1, v1, v2 => (fR 9 0 h v0).bind fun x6 => (aI 0 h x6 (4 : Int32)).bind fun x10 => (if x10 ≤ v2 then some v1 else (f9_pieceCell h v0 v2 (0 : Int32)).bind fun x18 => (if x18 = 0 then (some (v1 + (1 : Int32))).bind fun x30 => (some (v2 + (1 : Int32))).bind fun x31 => f9_volumes_4 h v0 n x30 x31 else (some (v1 + (0 : Int32))).bind fun x30 => (some (v2 + (1 : Int32))).bind fun x31 => f9_volumes_4 h v0 n x30 x31))
set_option maxRecDepth 100000 in
theorem vl9_volumes_4 {κ : Kx} (hc : CX κ RX9 cX9_volumes) (hr : RX κ ({ frames := 1, cells := 0, slots := 0, locals := 22 } : Room)) (hq : QX κ (some .int) 0 0) (hL : 3 = κ.2.2.2.2.1)  (h : AH) (v0 : Nat) : ∀ n (v1 : Int32) (v2 : Int32), V κ (rI h) 0 0 4 [(0, .ref v0), (1, .int v1), (2, .int v2)] [] h (f9_volumes_4 h v0 n v1 v2) := by
  have hn : ∀ i, i < 3 → i < κ.2.2.2.2.1 := fun i q => hL ▸ q
  intro n
  induction n with
  | zero => intros; exact v_none
  | succ n ih =>
    intro v1 v2
    rw [f9_volumes_4.eq_2]
    refine v_iload_n (i := 2) hc 2 rfl dX9_volumes_4 rfl ?_
    refine v_aload_n (i := 0) hc 0 rfl dX9_volumes_5 rfl ?_
    refine v_getV hc kX9 0 (by decide) w_1131 rfl dX9_volumes_6 (gR rfl fun x6 => ?_)
    refine v_iconst (x := (4 : Int32)) hc dX9_volumes_9 zi_4 ?_
    refine v_iald hc dX9_volumes_10 fun x10 => ?_
    refine v_icmp_ge hc 37 dX9_volumes_11 rfl ?_ ?_
    · refine v_iload_n (i := 1) hc 1 rfl dX9_volumes_37 rfl ?_
      exact v_iret hc hq rfl rfl (Nat.le_of_ble_eq_true rfl) (Nat.le_of_ble_eq_true rfl) rfl dX9_volumes_38
    · refine v_iload_n (i := 1) hc 1 rfl dX9_volumes_14 rfl ?_
      refine v_aload_n (i := 0) hc 0 rfl dX9_volumes_15 rfl ?_
      refine v_iload_n (i := 2) hc 2 rfl dX9_volumes_16 rfl ?_
      refine v_iconst (x := (0 : Int32)) hc dX9_volumes_17 zi_0 ?_
      refine v_cI hc (m_V' (As := [.int v2, .int (0 : Int32)]) (b := v0) (rest := [.int v1]) 2 hc hr (fun l D tys base => ct9_pieceCell l D tys base h v0 v2 (0 : Int32)) (fun x hx => ob9_pieceCell hx) rfl s9_pieceCell w_1327 rfl ⟨Nat.le_of_ble_eq_true rfl, Nat.le_of_ble_eq_true rfl⟩ ⟨Nat.le_of_ble_eq_true rfl, Nat.le_of_ble_eq_true rfl⟩ (Nat.le_of_ble_eq_true rfl) dX9_volumes_18) fun x18 => ?_
      refine v_if_ne hc 28 dX9_volumes_21 rfl ?_ ?_
      · refine v_iconst (x := (0 : Int32)) hc dX9_volumes_28 zi_0 ?_
        refine v_iadd hc dX9_volumes_29 ?_
        refine v_nmI fun x30 => ?_
        refine v_istore_n (i := 1) (L' := [(1, .int x30), (0, .ref v0), (2, .int v2)]) hc dX9_volumes_30 rfl (hn 1 (Nat.le_of_ble_eq_true rfl)) rfl ?_
        refine v_iincN (i := 2) (y := (1 : Int32)) (L' := fun z => [(2, .int z), (1, .int x30), (0, .ref v0)]) hc 2 rfl dX9_volumes_31 zi_1 (hn 2 (Nat.le_of_ble_eq_true rfl)) (fun _ => rfl) fun x31 => ?_
        refine v_goto hc 4 dX9_volumes_34 rfl ?_
        refine v_sub (L' := [(0, .ref v0), (1, .int x30), (2, .int x31)]) [2, 1, 0] rfl ?_
        exact ih x30 x31
      · refine v_iconst (x := (1 : Int32)) hc dX9_volumes_24 zi_1 ?_
        refine v_goto hc 29 dX9_volumes_25 rfl ?_
        refine v_iadd hc dX9_volumes_29 ?_
        refine v_nmI fun x30 => ?_
        refine v_istore_n (i := 1) (L' := [(1, .int x30), (0, .ref v0), (2, .int v2)]) hc dX9_volumes_30 rfl (hn 1 (Nat.le_of_ble_eq_true rfl)) rfl ?_
        refine v_iincN (i := 2) (y := (1 : Int32)) (L' := fun z => [(2, .int z), (1, .int x30), (0, .ref v0)]) hc 2 rfl dX9_volumes_31 zi_1 (hn 2 (Nat.le_of_ble_eq_true rfl)) (fun _ => rfl) fun x31 => ?_
        refine v_goto hc 4 dX9_volumes_34 rfl ?_
        refine v_sub (L' := [(0, .ref v0), (1, .int x30), (2, .int x31)]) [2, 1, 0] rfl ?_
        exact ih x30 x31
def f9_volumes (h : AH) (this : Nat) : Option (Int32) := (hObj 9 h this).bind fun _ => f9_volumes_4 h this FU (0 : Int32) (0 : Int32)
theorem ob9_volumes {h : AH} {this : Nat} {x : Int32} (e : f9_volumes h this = some x) : ∃ fs, hObj 9 h this = some fs := by
  unfold f9_volumes at e
  obtain ⟨fs, h1, -⟩ := bd e
  exact ⟨fs, h1⟩
set_option maxRecDepth 100000 in
theorem ct9_volumes (l : Launch) (D : va_G) (tys : Tys) (base : Nat) (h : AH) (this : Nat) : Ct l D tys base yX9_volumes cX9_volumes 3 (some .int) 1 22 0 0 [.ref this] h (rI h) (f9_volumes h this) := by
  refine Ct.intro (own := RX9) (L := [(0, .ref this)]) rfl (by decide) rfl (Nat.le_of_ble_eq_true rfl) fun κ hc hr hq hi hL => ?_
  have hn : ∀ i, i < 3 → i < κ.2.2.2.2.1 := fun i q => hL ▸ q
  unfold f9_volumes
  refine v_obj ?_
  refine v_iconst (x := (0 : Int32)) hc dX9_volumes_0 zi_0 ?_
  refine v_istore_n (i := 1) (L' := [(1, .int (0 : Int32)), (0, .ref this)]) hc dX9_volumes_1 rfl (hn 1 (Nat.le_of_ble_eq_true rfl)) rfl ?_
  refine v_iconst (x := (0 : Int32)) hc dX9_volumes_2 zi_0 ?_
  refine v_istore_n (i := 2) (L' := [(2, .int (0 : Int32)), (1, .int (0 : Int32)), (0, .ref this)]) hc dX9_volumes_3 rfl (hn 2 (Nat.le_of_ble_eq_true rfl)) rfl ?_
  refine v_sub (L' := [(0, .ref this), (1, .int (0 : Int32)), (2, .int (0 : Int32))]) [2, 1, 0] rfl ?_
  exact vl9_volumes_4 hc hr hq hL h this FU (0 : Int32) (0 : Int32)
theorem s9_volumes : YV yX9_volumes RX9 cX9_volumes 3 (some .int) 0 := ⟨w_1519, w_1518, w_93, w_118, rfl, by decide +kernel, by decide +kernel, by decide +kernel⟩
def f9_push (h : AH) (this : Nat) (p0 : Int64) : Option (AH) := (hObj 9 h this).bind fun _ => (fR 9 25 h this).bind fun x1 => (fI 9 26 h this).bind fun x5 => (sL h x1 x5 p0).bind fun h9 => (fI 9 26 h9 this).bind fun x12 => (fS 9 26 h9 this (.int (x12 + (1 : Int32)))).bind fun h17 => some h17
theorem ob9_push {h : AH} {this : Nat} {p0 : Int64} {x : AH} (e : f9_push h this p0 = some x) : ∃ fs, hObj 9 h this = some fs := by
  unfold f9_push at e
  obtain ⟨fs, h1, -⟩ := bd e
  exact ⟨fs, h1⟩
set_option maxRecDepth 100000 in
theorem ct9_push (l : Launch) (D : va_G) (tys : Tys) (base : Nat) (h : AH) (this : Nat) (p0 : Int64) : Ct l D tys base yX9_push cX9_push 3 none 0 0 0 0 [.ref this, .long p0] h (wV) (f9_push h this p0) := by
  refine Ct.intro (own := RX9) (L := [(0, .ref this), (1, .long p0)]) rfl (by decide) rfl (Nat.le_of_ble_eq_true rfl) fun κ hc hr hq hi hL => ?_
  have hn : ∀ i, i < 3 → i < κ.2.2.2.2.1 := fun i q => hL ▸ q
  unfold f9_push
  refine v_obj ?_
  refine v_aload_n (i := 0) hc 0 rfl dX9_push_0 rfl ?_
  refine v_getV hc kX9 25 (by decide) w_1156 rfl dX9_push_1 (gR rfl fun x1 => ?_)
  refine v_aload_n (i := 0) hc 0 rfl dX9_push_4 rfl ?_
  refine v_getV hc kX9 26 (by decide) w_1157 rfl dX9_push_5 (gI rfl fun x5 => ?_)
  refine v_lload_n (i := 1) hc 1 rfl dX9_push_8 rfl ?_
  refine v_last hc dX9_push_9 fun h9 => ?_
  refine v_aload_n (i := 0) hc 0 rfl dX9_push_10 rfl ?_
  refine v_dup hc dX9_push_11 rfl ?_
  refine v_getV hc kX9 26 (by decide) w_1157 rfl dX9_push_12 (gI rfl fun x12 => ?_)
  refine v_iconst (x := (1 : Int32)) hc dX9_push_15 zi_1 ?_
  refine v_iadd hc dX9_push_16 ?_
  refine v_put hc kX9 26 (by decide) w_1157 rfl rfl dX9_push_17 ⟨rfl, rfl⟩ fun h17 => ?_
  exact v_vret hc hq (Nat.le_of_ble_eq_true rfl) (Nat.le_of_ble_eq_true rfl) rfl dX9_push_20
theorem s9_push : YV yX9_push RX9 cX9_push 3 none 1 := ⟨w_1527, w_1526, w_95, w_118, rfl, by decide +kernel, by decide +kernel, by decide +kernel⟩
def f9_pop (h : AH) (this : Nat) : Option (Int64 × AH) := (hObj 9 h this).bind fun _ => (fI 9 26 h this).bind fun x2 => (fS 9 26 h this (.int (x2 - (1 : Int32)))).bind fun h7 => (fR 9 25 h7 this).bind fun x11 => (fI 9 26 h7 this).bind fun x15 => (aL' h7 x11 x15).bind fun x18 => some (x18, h7)
theorem ob9_pop {h : AH} {this : Nat} {x : Int64 × AH} (e : f9_pop h this = some x) : ∃ fs, hObj 9 h this = some fs := by
  unfold f9_pop at e
  obtain ⟨fs, h1, -⟩ := bd e
  exact ⟨fs, h1⟩
set_option maxRecDepth 100000 in
theorem ct9_pop (l : Launch) (D : va_G) (tys : Tys) (base : Nat) (h : AH) (this : Nat) : Ct l D tys base yX9_pop cX9_pop 1 (some .long) 0 0 0 0 [.ref this] h (wL) (f9_pop h this) := by
  refine Ct.intro (own := RX9) (L := [(0, .ref this)]) rfl (by decide) rfl (Nat.le_of_ble_eq_true rfl) fun κ hc hr hq hi hL => ?_
  have hn : ∀ i, i < 1 → i < κ.2.2.2.2.1 := fun i q => hL ▸ q
  unfold f9_pop
  refine v_obj ?_
  refine v_aload_n (i := 0) hc 0 rfl dX9_pop_0 rfl ?_
  refine v_dup hc dX9_pop_1 rfl ?_
  refine v_getV hc kX9 26 (by decide) w_1157 rfl dX9_pop_2 (gI rfl fun x2 => ?_)
  refine v_iconst (x := (1 : Int32)) hc dX9_pop_5 zi_1 ?_
  refine v_isub hc dX9_pop_6 ?_
  refine v_put hc kX9 26 (by decide) w_1157 rfl rfl dX9_pop_7 ⟨rfl, rfl⟩ fun h7 => ?_
  refine v_aload_n (i := 0) hc 0 rfl dX9_pop_10 rfl ?_
  refine v_getV hc kX9 25 (by decide) w_1156 rfl dX9_pop_11 (gR rfl fun x11 => ?_)
  refine v_aload_n (i := 0) hc 0 rfl dX9_pop_14 rfl ?_
  refine v_getV hc kX9 26 (by decide) w_1157 rfl dX9_pop_15 (gI rfl fun x15 => ?_)
  refine v_lald hc dX9_pop_18 fun x18 => ?_
  exact v_lret hc hq (Nat.le_of_ble_eq_true rfl) (Nat.le_of_ble_eq_true rfl) rfl dX9_pop_19
theorem s9_pop : YV yX9_pop RX9 cX9_pop 1 (some .long) 0 := ⟨w_1531, w_1530, w_96, w_118, rfl, by decide +kernel, by decide +kernel, by decide +kernel⟩
def f9_one (h : AH) (p0 : Int32) (p1 : Int64) (p2 : Int64) : Option (Int64) := (if p0 = (2 : Int32) then some (p1 + p2) else (if p0 = (3 : Int32) then some (p1 - p2) else (if p0 = (4 : Int32) then some (p1 * p2) else (if p0 = (5 : Int32) then (if p2 ≤ p1 then some (0 : Int64) else some (1 : Int64)) else (if p0 = (6 : Int32) then (if p2 < p1 then some (0 : Int64) else some (1 : Int64)) else (if p0 = (7 : Int32) then (if p1 = p2 then some (1 : Int64) else some (0 : Int64)) else (if p0 = (8 : Int32) then (if p1 < p2 then some (0 : Int64) else some (1 : Int64)) else (if p0 = (9 : Int32) then (if p1 ≤ p2 then some (0 : Int64) else some (1 : Int64)) else (if p0 = (10 : Int32) then some (p1 ||| p2) else (if p0 = (11 : Int32) then some (p1 &&& p2) else some (p1 ||| p2)))))))))))
set_option maxRecDepth 100000 in
theorem ct9_one (l : Launch) (D : va_G) (tys : Tys) (base : Nat) (h : AH) (p0 : Int32) (p1 : Int64) (p2 : Int64) : Ct l D tys base yX9_one cX9_one 5 (some .long) 0 0 0 0 [.int p0, .long p1, .long p2] h (rL h) (f9_one h p0 p1 p2) := by
  refine Ct.intro (own := RX9) (L := [(0, .int p0), (1, .long p1), (3, .long p2)]) rfl (by decide) rfl (Nat.le_of_ble_eq_true rfl) fun κ hc hr hq hi hL => ?_
  have hn : ∀ i, i < 5 → i < κ.2.2.2.2.1 := fun i q => hL ▸ q
  unfold f9_one
  refine v_iload_n (i := 0) hc 0 rfl dX9_one_0 rfl ?_
  refine v_ite (fun q2 => ?_) (fun q2 => ?_)
  · refine v_tIn hc (2 : Int32) q2 56 dX9_one_1 (by decide) (by decide) rfl rfl ?_
    refine v_lload_n (i := 1) hc 1 rfl dX9_one_56 rfl ?_
    refine v_lload_n (i := 3) hc 2 rfl dX9_one_57 rfl ?_
    refine v_ladd hc dX9_one_58 ?_
    exact v_lret hc hq (Nat.le_of_ble_eq_true rfl) (Nat.le_of_ble_eq_true rfl) rfl dX9_one_59
  · refine v_ite (fun q3 => ?_) (fun q3 => ?_)
    · refine v_tIn hc (3 : Int32) q3 60 dX9_one_1 (by decide) (by decide) rfl rfl ?_
      refine v_lload_n (i := 1) hc 1 rfl dX9_one_60 rfl ?_
      refine v_lload_n (i := 3) hc 2 rfl dX9_one_61 rfl ?_
      refine v_lsub hc dX9_one_62 ?_
      exact v_lret hc hq (Nat.le_of_ble_eq_true rfl) (Nat.le_of_ble_eq_true rfl) rfl dX9_one_63
    · refine v_ite (fun q4 => ?_) (fun q4 => ?_)
      · refine v_tIn hc (4 : Int32) q4 64 dX9_one_1 (by decide) (by decide) rfl rfl ?_
        refine v_lload_n (i := 1) hc 1 rfl dX9_one_64 rfl ?_
        refine v_lload_n (i := 3) hc 2 rfl dX9_one_65 rfl ?_
        refine v_lmul hc dX9_one_66 ?_
        exact v_lret hc hq (Nat.le_of_ble_eq_true rfl) (Nat.le_of_ble_eq_true rfl) rfl dX9_one_67
      · refine v_ite (fun q5 => ?_) (fun q5 => ?_)
        · refine v_tIn hc (5 : Int32) q5 68 dX9_one_1 (by decide) (by decide) rfl rfl ?_
          refine v_lload_n (i := 1) hc 1 rfl dX9_one_68 rfl ?_
          refine v_lload_n (i := 3) hc 2 rfl dX9_one_69 rfl ?_
          refine v_lcmp_ge hc 78 dX9_one_70 dX9_one_71 rfl ?_ ?_
          · refine v_lconst (x := (0 : Int64)) hc dX9_one_78 (by decide) ?_
            exact v_lret hc hq (Nat.le_of_ble_eq_true rfl) (Nat.le_of_ble_eq_true rfl) rfl dX9_one_79
          · refine v_lconst (x := (1 : Int64)) hc dX9_one_74 (by decide) ?_
            refine v_goto hc 79 dX9_one_75 rfl ?_
            exact v_lret hc hq (Nat.le_of_ble_eq_true rfl) (Nat.le_of_ble_eq_true rfl) rfl dX9_one_79
        · refine v_ite (fun q6 => ?_) (fun q6 => ?_)
          · refine v_tIn hc (6 : Int32) q6 80 dX9_one_1 (by decide) (by decide) rfl rfl ?_
            refine v_lload_n (i := 1) hc 1 rfl dX9_one_80 rfl ?_
            refine v_lload_n (i := 3) hc 2 rfl dX9_one_81 rfl ?_
            refine v_lcmp_gt hc 90 dX9_one_82 dX9_one_83 rfl ?_ ?_
            · refine v_lconst (x := (0 : Int64)) hc dX9_one_90 (by decide) ?_
              exact v_lret hc hq (Nat.le_of_ble_eq_true rfl) (Nat.le_of_ble_eq_true rfl) rfl dX9_one_91
            · refine v_lconst (x := (1 : Int64)) hc dX9_one_86 (by decide) ?_
              refine v_goto hc 91 dX9_one_87 rfl ?_
              exact v_lret hc hq (Nat.le_of_ble_eq_true rfl) (Nat.le_of_ble_eq_true rfl) rfl dX9_one_91
          · refine v_ite (fun q7 => ?_) (fun q7 => ?_)
            · refine v_tIn hc (7 : Int32) q7 92 dX9_one_1 (by decide) (by decide) rfl rfl ?_
              refine v_lload_n (i := 1) hc 1 rfl dX9_one_92 rfl ?_
              refine v_lload_n (i := 3) hc 2 rfl dX9_one_93 rfl ?_
              refine v_lcmp_ne hc 102 dX9_one_94 dX9_one_95 rfl ?_ ?_
              · refine v_lconst (x := (0 : Int64)) hc dX9_one_102 (by decide) ?_
                exact v_lret hc hq (Nat.le_of_ble_eq_true rfl) (Nat.le_of_ble_eq_true rfl) rfl dX9_one_103
              · refine v_lconst (x := (1 : Int64)) hc dX9_one_98 (by decide) ?_
                refine v_goto hc 103 dX9_one_99 rfl ?_
                exact v_lret hc hq (Nat.le_of_ble_eq_true rfl) (Nat.le_of_ble_eq_true rfl) rfl dX9_one_103
            · refine v_ite (fun q8 => ?_) (fun q8 => ?_)
              · refine v_tIn hc (8 : Int32) q8 104 dX9_one_1 (by decide) (by decide) rfl rfl ?_
                refine v_lload_n (i := 1) hc 1 rfl dX9_one_104 rfl ?_
                refine v_lload_n (i := 3) hc 2 rfl dX9_one_105 rfl ?_
                refine v_lcmp_lt hc 114 dX9_one_106 dX9_one_107 rfl ?_ ?_
                · refine v_lconst (x := (0 : Int64)) hc dX9_one_114 (by decide) ?_
                  exact v_lret hc hq (Nat.le_of_ble_eq_true rfl) (Nat.le_of_ble_eq_true rfl) rfl dX9_one_115
                · refine v_lconst (x := (1 : Int64)) hc dX9_one_110 (by decide) ?_
                  refine v_goto hc 115 dX9_one_111 rfl ?_
                  exact v_lret hc hq (Nat.le_of_ble_eq_true rfl) (Nat.le_of_ble_eq_true rfl) rfl dX9_one_115
              · refine v_ite (fun q9 => ?_) (fun q9 => ?_)
                · refine v_tIn hc (9 : Int32) q9 116 dX9_one_1 (by decide) (by decide) rfl rfl ?_
                  refine v_lload_n (i := 1) hc 1 rfl dX9_one_116 rfl ?_
                  refine v_lload_n (i := 3) hc 2 rfl dX9_one_117 rfl ?_
                  refine v_lcmp_le hc 126 dX9_one_118 dX9_one_119 rfl ?_ ?_
                  · refine v_lconst (x := (0 : Int64)) hc dX9_one_126 (by decide) ?_
                    exact v_lret hc hq (Nat.le_of_ble_eq_true rfl) (Nat.le_of_ble_eq_true rfl) rfl dX9_one_127
                  · refine v_lconst (x := (1 : Int64)) hc dX9_one_122 (by decide) ?_
                    refine v_goto hc 127 dX9_one_123 rfl ?_
                    exact v_lret hc hq (Nat.le_of_ble_eq_true rfl) (Nat.le_of_ble_eq_true rfl) rfl dX9_one_127
                · refine v_ite (fun q10 => ?_) (fun q10 => ?_)
                  · refine v_tIn hc (10 : Int32) q10 132 dX9_one_1 (by decide) (by decide) rfl rfl ?_
                    refine v_lload_n (i := 1) hc 1 rfl dX9_one_132 rfl ?_
                    refine v_lload_n (i := 3) hc 2 rfl dX9_one_133 rfl ?_
                    refine v_lor hc dX9_one_134 ?_
                    exact v_lret hc hq (Nat.le_of_ble_eq_true rfl) (Nat.le_of_ble_eq_true rfl) rfl dX9_one_135
                  · refine v_ite (fun q11 => ?_) (fun q11 => ?_)
                    · refine v_tIn hc (11 : Int32) q11 128 dX9_one_1 (by decide) (by decide) rfl rfl ?_
                      refine v_lload_n (i := 1) hc 1 rfl dX9_one_128 rfl ?_
                      refine v_lload_n (i := 3) hc 2 rfl dX9_one_129 rfl ?_
                      refine v_land hc dX9_one_130 ?_
                      exact v_lret hc hq (Nat.le_of_ble_eq_true rfl) (Nat.le_of_ble_eq_true rfl) rfl dX9_one_131
                    · refine v_tOut hc 132 dX9_one_1 (by have e2 := lv_neT (a := 2) q2 (by decide); have e3 := lv_neT (a := 3) q3 (by decide); have e4 := lv_neT (a := 4) q4 (by decide); have e5 := lv_neT (a := 5) q5 (by decide); have e6 := lv_neT (a := 6) q6 (by decide); have e7 := lv_neT (a := 7) q7 (by decide); have e8 := lv_neT (a := 8) q8 (by decide); have e9 := lv_neT (a := 9) q9 (by decide); have e10 := lv_neT (a := 10) q10 (by decide); have e11 := lv_neT (a := 11) q11 (by decide); omega) rfl ?_
                      refine v_lload_n (i := 1) hc 1 rfl dX9_one_132 rfl ?_
                      refine v_lload_n (i := 3) hc 2 rfl dX9_one_133 rfl ?_
                      refine v_lor hc dX9_one_134 ?_
                      exact v_lret hc hq (Nat.le_of_ble_eq_true rfl) (Nat.le_of_ble_eq_true rfl) rfl dX9_one_135
theorem s9_one : YS yX9_one cX9_one 5 (some .long) 3 := ⟨w_1534, w_1533, w_118, by decide +kernel, by decide +kernel, by decide +kernel⟩
def f9_reckons_8 (v0 : Nat) (v1 : Int32) (v3 : Int32) : Nat → AH → Int32 → Option (Int64 × AH)
  | 0, _, _ => none
  | n + 1, h, v4 => (if v3 ≤ v4 then (f9_pop h v0).bind fun x136 => some (x136.1, x136.2) else (fR 9 3 h v0).bind fun x15 => (aI 0 h x15 (((400 : Int32) * v1) + v4)).bind fun x26 => (some (x26 &&& (15 : Int32))).bind fun x30 => (fR 9 3 h v0).bind fun x33 => (aI 0 h x33 (((400 : Int32) * v1) + v4)).bind fun x44 => (some (x44 >>> ((4 : Int32) &&& 31))).bind fun x47 => (if x30 = 0 then (f9_push h v0 x47.toInt64).bind fun x58 => (some (v4 + (1 : Int32))).bind fun x129 => f9_reckons_8 v0 v1 v3 n x58 x129 else (if x30 = (1 : Int32) then (fR 9 27 h v0).bind fun x72 => (aL' h x72 x47).bind fun x77 => (f9_push h v0 x77).bind fun x78 => (some (v4 + (1 : Int32))).bind fun x129 => f9_reckons_8 v0 v1 v3 n x78 x129 else (if x30 = (10 : Int32) then (f9_pop h v0).bind fun x94 => (f9_push x94.2 v0 ((1 : Int64) - x94.1)).bind fun x98 => (some (v4 + (1 : Int32))).bind fun x129 => f9_reckons_8 v0 v1 v3 n x98 x129 else (f9_pop h v0).bind fun x105 => (f9_pop x105.2 v0).bind fun x111 => (f9_one x111.2 x30 x111.1 x105.1).bind fun x123 => (f9_push x111.2 v0 x123).bind fun x126 => (some (v4 + (1 : Int32))).bind fun x129 => f9_reckons_8 v0 v1 v3 n x126 x129))))
set_option maxRecDepth 100000 in
theorem vl9_reckons_8 {κ : Kx} (hc : CX κ RX9 cX9_reckons) (hr : RX κ ({ frames := 1, cells := 0, slots := 0, locals := 24 } : Room)) (hq : QX κ (some .long) 0 0) (hL : 11 = κ.2.2.2.2.1)  (v0 : Nat) (v1 : Int32) (v3 : Int32) : ∀ n (h : AH) (v4 : Int32), V κ (wL) 0 0 8 [(0, .ref v0), (1, .int v1), (3, .int v3), (4, .int v4)] [] h (f9_reckons_8 v0 v1 v3 n h v4) := by
  have hn : ∀ i, i < 11 → i < κ.2.2.2.2.1 := fun i q => hL ▸ q
  intro n
  induction n with
  | zero => intros; exact v_none
  | succ n ih =>
    intro h v4
    rw [f9_reckons_8.eq_2]
    refine v_iload (i := 4) hc 3 rfl dX9_reckons_8 ?_
    refine v_iload_n (i := 3) hc 2 rfl dX9_reckons_10 rfl ?_
    refine v_icmp_ge hc 135 dX9_reckons_11 rfl ?_ ?_
    · refine v_aload_n (i := 0) hc 0 rfl dX9_reckons_135 rfl ?_
      refine v_cwL hc (m_V' (As := []) (b := v0) (rest := []) 0 hc hr (fun l D tys base => ct9_pop l D tys base h v0) (fun x hx => ob9_pop hx) rfl s9_pop w_1528 rfl ⟨Nat.le_of_ble_eq_true rfl, Nat.le_of_ble_eq_true rfl⟩ ⟨Nat.le_of_ble_eq_true rfl, Nat.le_of_ble_eq_true rfl⟩ (Nat.le_of_ble_eq_true rfl) dX9_reckons_136) fun x136 => ?_
      exact v_lret hc hq (Nat.le_of_ble_eq_true rfl) (Nat.le_of_ble_eq_true rfl) rfl dX9_reckons_139
    · refine v_aload_n (i := 0) hc 0 rfl dX9_reckons_14 rfl ?_
      refine v_getV hc kX9 3 (by decide) w_1134 rfl dX9_reckons_15 (gR rfl fun x15 => ?_)
      refine v_sipush (x := (400 : Int32)) hc dX9_reckons_18 zs_400 ?_
      refine v_iload_n (i := 1) hc 1 rfl dX9_reckons_21 rfl ?_
      refine v_imul hc dX9_reckons_22 ?_
      refine v_iload (i := 4) hc 3 rfl dX9_reckons_23 ?_
      refine v_iadd hc dX9_reckons_25 ?_
      refine v_iald hc dX9_reckons_26 fun x26 => ?_
      refine v_bipush (x := (15 : Int32)) hc dX9_reckons_27 zb_15 ?_
      refine v_iand hc dX9_reckons_29 ?_
      refine v_nmI fun x30 => ?_
      refine v_istore (i := 5) (L' := [(5, .int x30), (0, .ref v0), (1, .int v1), (3, .int v3), (4, .int v4)]) hc dX9_reckons_30 (hn 5 (Nat.le_of_ble_eq_true rfl)) rfl ?_
      refine v_aload_n (i := 0) hc 1 rfl dX9_reckons_32 rfl ?_
      refine v_getV hc kX9 3 (by decide) w_1134 rfl dX9_reckons_33 (gR rfl fun x33 => ?_)
      refine v_sipush (x := (400 : Int32)) hc dX9_reckons_36 zs_400 ?_
      refine v_iload_n (i := 1) hc 2 rfl dX9_reckons_39 rfl ?_
      refine v_imul hc dX9_reckons_40 ?_
      refine v_iload (i := 4) hc 4 rfl dX9_reckons_41 ?_
      refine v_iadd hc dX9_reckons_43 ?_
      refine v_iald hc dX9_reckons_44 fun x44 => ?_
      refine v_iconst (x := (4 : Int32)) hc dX9_reckons_45 zi_4 ?_
      refine v_ishr hc dX9_reckons_46 ?_
      refine v_nmI fun x47 => ?_
      refine v_istore (i := 6) (L' := [(6, .int x47), (5, .int x30), (0, .ref v0), (1, .int v1), (3, .int v3), (4, .int v4)]) hc dX9_reckons_47 (hn 6 (Nat.le_of_ble_eq_true rfl)) rfl ?_
      refine v_iload (i := 5) hc 1 rfl dX9_reckons_49 ?_
      refine v_if_ne hc 64 dX9_reckons_51 rfl ?_ ?_
      · refine v_iload (i := 5) hc 1 rfl dX9_reckons_64 ?_
        refine v_iconst (x := (1 : Int32)) hc dX9_reckons_66 zi_1 ?_
        refine v_icmp_ne hc 84 dX9_reckons_67 rfl ?_ ?_
        · refine v_iload (i := 5) hc 1 rfl dX9_reckons_84 ?_
          refine v_bipush (x := (10 : Int32)) hc dX9_reckons_86 zb_10 ?_
          refine v_icmp_ne hc 104 dX9_reckons_88 rfl ?_ ?_
          · refine v_aload_n (i := 0) hc 2 rfl dX9_reckons_104 rfl ?_
            refine v_cwL hc (m_V' (As := []) (b := v0) (rest := []) 0 hc hr (fun l D tys base => ct9_pop l D tys base h v0) (fun x hx => ob9_pop hx) rfl s9_pop w_1528 rfl ⟨Nat.le_of_ble_eq_true rfl, Nat.le_of_ble_eq_true rfl⟩ ⟨Nat.le_of_ble_eq_true rfl, Nat.le_of_ble_eq_true rfl⟩ (Nat.le_of_ble_eq_true rfl) dX9_reckons_105) fun x105 => ?_
            refine v_lstore (i := 7) (L' := [(7, .long x105.1), (6, .int x47), (5, .int x30), (0, .ref v0), (1, .int v1), (3, .int v3), (4, .int v4)]) hc dX9_reckons_108 (hn 8 (Nat.le_of_ble_eq_true rfl)) rfl ?_
            refine v_aload_n (i := 0) hc 3 rfl dX9_reckons_110 rfl ?_
            refine v_cwL hc (m_V' (As := []) (b := v0) (rest := []) 0 hc hr (fun l D tys base => ct9_pop l D tys base x105.2 v0) (fun x hx => ob9_pop hx) rfl s9_pop w_1528 rfl ⟨Nat.le_of_ble_eq_true rfl, Nat.le_of_ble_eq_true rfl⟩ ⟨Nat.le_of_ble_eq_true rfl, Nat.le_of_ble_eq_true rfl⟩ (Nat.le_of_ble_eq_true rfl) dX9_reckons_111) fun x111 => ?_
            refine v_lstore (i := 9) (L' := [(9, .long x111.1), (7, .long x105.1), (6, .int x47), (5, .int x30), (0, .ref v0), (1, .int v1), (3, .int v3), (4, .int v4)]) hc dX9_reckons_114 (hn 10 (Nat.le_of_ble_eq_true rfl)) rfl ?_
            refine v_aload_n (i := 0) hc 4 rfl dX9_reckons_116 rfl ?_
            refine v_iload (i := 5) hc 3 rfl dX9_reckons_117 ?_
            refine v_lload (i := 9) hc 0 rfl dX9_reckons_119 ?_
            refine v_lload (i := 7) hc 1 rfl dX9_reckons_121 ?_
            refine v_cL hc (m_S' (As := [.int x30, .long x111.1, .long x105.1]) (rest := [.ref v0]) 3 hc hr (fun l D tys base => ct9_one l D tys base x111.2 x30 x111.1 x105.1) s9_one w_1532 rfl ⟨Nat.le_of_ble_eq_true rfl, Nat.le_of_ble_eq_true rfl⟩ ⟨Nat.le_of_ble_eq_true rfl, Nat.le_of_ble_eq_true rfl⟩ (Nat.le_of_ble_eq_true rfl) dX9_reckons_123) fun x123 => ?_
            refine v_cV hc (m_V' (As := [.long x123]) (b := v0) (rest := []) 1 hc hr (fun l D tys base => ct9_push l D tys base x111.2 v0 x123) (fun x hx => ob9_push hx) rfl s9_push w_1524 rfl ⟨Nat.le_of_ble_eq_true rfl, Nat.le_of_ble_eq_true rfl⟩ ⟨Nat.le_of_ble_eq_true rfl, Nat.le_of_ble_eq_true rfl⟩ (Nat.le_of_ble_eq_true rfl) dX9_reckons_126) fun x126 => ?_
            refine v_iincN (i := 4) (y := (1 : Int32)) (L' := fun z => [(4, .int z), (9, .long x111.1), (7, .long x105.1), (6, .int x47), (5, .int x30), (0, .ref v0), (1, .int v1), (3, .int v3)]) hc 7 rfl dX9_reckons_129 zi_1 (hn 4 (Nat.le_of_ble_eq_true rfl)) (fun _ => rfl) fun x129 => ?_
            refine v_goto hc 8 dX9_reckons_132 rfl ?_
            refine v_sub (L' := [(0, .ref v0), (1, .int v1), (3, .int v3), (4, .int x129)]) [5, 6, 7, 0] rfl ?_
            exact ih x126 x129
          · refine v_aload_n (i := 0) hc 2 rfl dX9_reckons_91 rfl ?_
            refine v_lconst (x := (1 : Int64)) hc dX9_reckons_92 (by decide) ?_
            refine v_aload_n (i := 0) hc 2 rfl dX9_reckons_93 rfl ?_
            refine v_cwL hc (m_V' (As := []) (b := v0) (rest := [.long (1 : Int64), .ref v0]) 0 hc hr (fun l D tys base => ct9_pop l D tys base h v0) (fun x hx => ob9_pop hx) rfl s9_pop w_1528 rfl ⟨Nat.le_of_ble_eq_true rfl, Nat.le_of_ble_eq_true rfl⟩ ⟨Nat.le_of_ble_eq_true rfl, Nat.le_of_ble_eq_true rfl⟩ (Nat.le_of_ble_eq_true rfl) dX9_reckons_94) fun x94 => ?_
            refine v_lsub hc dX9_reckons_97 ?_
            refine v_cV hc (m_V' (As := [.long ((1 : Int64) - x94.1)]) (b := v0) (rest := []) 1 hc hr (fun l D tys base => ct9_push l D tys base x94.2 v0 ((1 : Int64) - x94.1)) (fun x hx => ob9_push hx) rfl s9_push w_1524 rfl ⟨Nat.le_of_ble_eq_true rfl, Nat.le_of_ble_eq_true rfl⟩ ⟨Nat.le_of_ble_eq_true rfl, Nat.le_of_ble_eq_true rfl⟩ (Nat.le_of_ble_eq_true rfl) dX9_reckons_98) fun x98 => ?_
            refine v_goto hc 129 dX9_reckons_101 rfl ?_
            refine v_iincN (i := 4) (y := (1 : Int32)) (L' := fun z => [(4, .int z), (6, .int x47), (5, .int x30), (0, .ref v0), (1, .int v1), (3, .int v3)]) hc 5 rfl dX9_reckons_129 zi_1 (hn 4 (Nat.le_of_ble_eq_true rfl)) (fun _ => rfl) fun x129 => ?_
            refine v_goto hc 8 dX9_reckons_132 rfl ?_
            refine v_sub (L' := [(0, .ref v0), (1, .int v1), (3, .int v3), (4, .int x129)]) [3, 4, 5, 0] rfl ?_
            exact ih x98 x129
        · refine v_aload_n (i := 0) hc 2 rfl dX9_reckons_70 rfl ?_
          refine v_aload_n (i := 0) hc 2 rfl dX9_reckons_71 rfl ?_
          refine v_getV hc kX9 27 (by decide) w_1158 rfl dX9_reckons_72 (gR rfl fun x72 => ?_)
          refine v_iload (i := 6) hc 0 rfl dX9_reckons_75 ?_
          refine v_lald hc dX9_reckons_77 fun x77 => ?_
          refine v_cV hc (m_V' (As := [.long x77]) (b := v0) (rest := []) 1 hc hr (fun l D tys base => ct9_push l D tys base h v0 x77) (fun x hx => ob9_push hx) rfl s9_push w_1524 rfl ⟨Nat.le_of_ble_eq_true rfl, Nat.le_of_ble_eq_true rfl⟩ ⟨Nat.le_of_ble_eq_true rfl, Nat.le_of_ble_eq_true rfl⟩ (Nat.le_of_ble_eq_true rfl) dX9_reckons_78) fun x78 => ?_
          refine v_goto hc 129 dX9_reckons_81 rfl ?_
          refine v_iincN (i := 4) (y := (1 : Int32)) (L' := fun z => [(4, .int z), (6, .int x47), (5, .int x30), (0, .ref v0), (1, .int v1), (3, .int v3)]) hc 5 rfl dX9_reckons_129 zi_1 (hn 4 (Nat.le_of_ble_eq_true rfl)) (fun _ => rfl) fun x129 => ?_
          refine v_goto hc 8 dX9_reckons_132 rfl ?_
          refine v_sub (L' := [(0, .ref v0), (1, .int v1), (3, .int v3), (4, .int x129)]) [3, 4, 5, 0] rfl ?_
          exact ih x78 x129
      · refine v_aload_n (i := 0) hc 2 rfl dX9_reckons_54 rfl ?_
        refine v_iload (i := 6) hc 0 rfl dX9_reckons_55 ?_
        refine v_i2l hc dX9_reckons_57 ?_
        refine v_cV hc (m_V' (As := [.long x47.toInt64]) (b := v0) (rest := []) 1 hc hr (fun l D tys base => ct9_push l D tys base h v0 x47.toInt64) (fun x hx => ob9_push hx) rfl s9_push w_1524 rfl ⟨Nat.le_of_ble_eq_true rfl, Nat.le_of_ble_eq_true rfl⟩ ⟨Nat.le_of_ble_eq_true rfl, Nat.le_of_ble_eq_true rfl⟩ (Nat.le_of_ble_eq_true rfl) dX9_reckons_58) fun x58 => ?_
        refine v_goto hc 129 dX9_reckons_61 rfl ?_
        refine v_iincN (i := 4) (y := (1 : Int32)) (L' := fun z => [(4, .int z), (6, .int x47), (5, .int x30), (0, .ref v0), (1, .int v1), (3, .int v3)]) hc 5 rfl dX9_reckons_129 zi_1 (hn 4 (Nat.le_of_ble_eq_true rfl)) (fun _ => rfl) fun x129 => ?_
        refine v_goto hc 8 dX9_reckons_132 rfl ?_
        refine v_sub (L' := [(0, .ref v0), (1, .int v1), (3, .int v3), (4, .int x129)]) [3, 4, 5, 0] rfl ?_
        exact ih x58 x129
def f9_reckons (h : AH) (this : Nat) (p0 : Int32) (p1 : Int32) (p2 : Int32) : Option (Int64 × AH) := (hObj 9 h this).bind fun _ => (fS 9 26 h this (.int (0 : Int32))).bind fun h2 => f9_reckons_8 this p0 p2 FU h2 p1
theorem ob9_reckons {h : AH} {this : Nat} {p0 : Int32} {p1 : Int32} {p2 : Int32} {x : Int64 × AH} (e : f9_reckons h this p0 p1 p2 = some x) : ∃ fs, hObj 9 h this = some fs := by
  unfold f9_reckons at e
  obtain ⟨fs, h1, -⟩ := bd e
  exact ⟨fs, h1⟩
set_option maxRecDepth 100000 in
theorem ct9_reckons (l : Launch) (D : va_G) (tys : Tys) (base : Nat) (h : AH) (this : Nat) (p0 : Int32) (p1 : Int32) (p2 : Int32) : Ct l D tys base yX9_reckons cX9_reckons 11 (some .long) 1 24 0 0 [.ref this, .int p0, .int p1, .int p2] h (wL) (f9_reckons h this p0 p1 p2) := by
  refine Ct.intro (own := RX9) (L := [(0, .ref this), (1, .int p0), (2, .int p1), (3, .int p2)]) rfl (by decide) rfl (Nat.le_of_ble_eq_true rfl) fun κ hc hr hq hi hL => ?_
  have hn : ∀ i, i < 11 → i < κ.2.2.2.2.1 := fun i q => hL ▸ q
  unfold f9_reckons
  refine v_obj ?_
  refine v_aload_n (i := 0) hc 0 rfl dX9_reckons_0 rfl ?_
  refine v_iconst (x := (0 : Int32)) hc dX9_reckons_1 zi_0 ?_
  refine v_put hc kX9 26 (by decide) w_1157 rfl rfl dX9_reckons_2 ⟨rfl, rfl⟩ fun h2 => ?_
  refine v_iload_n (i := 2) hc 2 rfl dX9_reckons_5 rfl ?_
  refine v_istore (i := 4) (L' := [(4, .int p1), (0, .ref this), (1, .int p0), (2, .int p1), (3, .int p2)]) hc dX9_reckons_6 (hn 4 (Nat.le_of_ble_eq_true rfl)) rfl ?_
  refine v_sub (L' := [(0, .ref this), (1, .int p0), (3, .int p2), (4, .int p1)]) [1, 2, 4, 0] rfl ?_
  exact vl9_reckons_8 hc hr hq hL this p0 p2 FU h2 p1
theorem s9_reckons : YV yX9_reckons RX9 cX9_reckons 11 (some .long) 3 := ⟨w_1523, w_1522, w_94, w_118, rfl, by decide +kernel, by decide +kernel, by decide +kernel⟩
def f9_chanceOf_258 (h : AH) (v0 : Nat) (v1 : Int32) (v6 : Int32) : Option (Int32 × AH) := (fR 9 5 h v0).bind fun x261 => (aI 0 h x261 v6).bind fun x266 => (fR 9 5 h v0).bind fun x268 => (aI 0 h x268 (v6 + (1 : Int32))).bind fun x275 => (f9_reckons h v0 v1 x266 x275).bind fun x276 => (if (0 : Int64) ≤ x276.1 then (if x276.1 ≤ (1000 : Int64) then some (x276.1.toInt32, x276.2) else some ((1000 : Int32), x276.2)) else some ((0 : Int32), x276.2))
set_option maxRecDepth 100000 in
theorem vl9_chanceOf_258 {κ : Kx} (hc : CX κ RX9 cX9_chanceOf) (hr : RX κ ({ frames := 5, cells := 0, slots := 0, locals := 113 } : Room)) (hq : QX κ (some .int) 0 0) (hL : 9 = κ.2.2.2.2.1) (h : AH) (v0 : Nat) (v1 : Int32) (v6 : Int32) : V κ (wI) 0 0 258 [(0, .ref v0), (1, .int v1), (6, .int v6)] [] h (f9_chanceOf_258 h v0 v1 v6) := by
  have hn : ∀ i, i < 9 → i < κ.2.2.2.2.1 := fun i q => hL ▸ q
  unfold f9_chanceOf_258
  refine v_aload_n (i := 0) hc 0 rfl dX9_chanceOf_258 rfl ?_
  refine v_iload_n (i := 1) hc 1 rfl dX9_chanceOf_259 rfl ?_
  refine v_aload_n (i := 0) hc 0 rfl dX9_chanceOf_260 rfl ?_
  refine v_getV hc kX9 5 (by decide) w_1136 rfl dX9_chanceOf_261 (gR rfl fun x261 => ?_)
  refine v_iload (i := 6) hc 2 rfl dX9_chanceOf_264 ?_
  refine v_iald hc dX9_chanceOf_266 fun x266 => ?_
  refine v_aload_n (i := 0) hc 0 rfl dX9_chanceOf_267 rfl ?_
  refine v_getV hc kX9 5 (by decide) w_1136 rfl dX9_chanceOf_268 (gR rfl fun x268 => ?_)
  refine v_iload (i := 6) hc 2 rfl dX9_chanceOf_271 ?_
  refine v_iconst (x := (1 : Int32)) hc dX9_chanceOf_273 zi_1 ?_
  refine v_iadd hc dX9_chanceOf_274 ?_
  refine v_iald hc dX9_chanceOf_275 fun x275 => ?_
  refine v_cwL hc (m_V' (As := [.int v1, .int x266, .int x275]) (b := v0) (rest := []) 3 hc hr (fun l D tys base => ct9_reckons l D tys base h v0 v1 x266 x275) (fun x hx => ob9_reckons hx) rfl s9_reckons w_1520 rfl ⟨Nat.le_of_ble_eq_true rfl, Nat.le_of_ble_eq_true rfl⟩ ⟨Nat.le_of_ble_eq_true rfl, Nat.le_of_ble_eq_true rfl⟩ (Nat.le_of_ble_eq_true rfl) dX9_chanceOf_276) fun x276 => ?_
  refine v_lstore (i := 7) (L' := [(7, .long x276.1), (0, .ref v0), (1, .int v1), (6, .int v6)]) hc dX9_chanceOf_279 (hn 8 (Nat.le_of_ble_eq_true rfl)) rfl ?_
  refine v_lload (i := 7) hc 0 rfl dX9_chanceOf_281 ?_
  refine v_lconst (x := (0 : Int64)) hc dX9_chanceOf_283 (by decide) ?_
  refine v_lcmp_ge hc 292 dX9_chanceOf_284 dX9_chanceOf_285 rfl ?_ ?_
  · refine v_lload (i := 7) hc 0 rfl dX9_chanceOf_292 ?_
    refine v_ldc2 (x := (1000 : Int64)) hc w_1535 dX9_chanceOf_294 ?_
    refine v_lcmp_le hc 307 dX9_chanceOf_297 dX9_chanceOf_298 rfl ?_ ?_
    · refine v_lload (i := 7) hc 0 rfl dX9_chanceOf_307 ?_
      refine v_l2i hc dX9_chanceOf_309 ?_
      exact v_iret hc hq rfl rfl (Nat.le_of_ble_eq_true rfl) (Nat.le_of_ble_eq_true rfl) rfl dX9_chanceOf_310
    · refine v_sipush (x := (1000 : Int32)) hc dX9_chanceOf_301 zs_1000 ?_
      refine v_goto hc 310 dX9_chanceOf_304 rfl ?_
      exact v_iret hc hq rfl rfl (Nat.le_of_ble_eq_true rfl) (Nat.le_of_ble_eq_true rfl) rfl dX9_chanceOf_310
  · refine v_iconst (x := (0 : Int32)) hc dX9_chanceOf_288 zi_0 ?_
    refine v_goto hc 310 dX9_chanceOf_289 rfl ?_
    exact v_iret hc hq rfl rfl (Nat.le_of_ble_eq_true rfl) (Nat.le_of_ble_eq_true rfl) rfl dX9_chanceOf_310
def f9_chanceOf_193 (v0 : Nat) (v1 : Int32) : Nat → AH → Int32 → Option (Int32 × AH)
  | 0, _, _ => none
  | n + 1, h, v5 => (fR 9 6 h v0).bind fun x196 => (aI 0 h x196 v1).bind fun x200 => (if x200 ≤ v5 then some ((500 : Int32), h) else (some (((48 : Int32) * v1) + ((4 : Int32) * v5))).bind fun x213 => (fR 9 5 h v0).bind fun x216 => (aI 0 h x216 (x213 + (2 : Int32))).bind fun x223 => (if x223 < 0 then f9_chanceOf_258 h v0 v1 x213 else (fR 9 5 h v0).bind fun x230 => (aI 0 h x230 (x213 + (2 : Int32))).bind fun x237 => (fR 9 5 h v0).bind fun x239 => (aI 0 h x239 (x213 + (3 : Int32))).bind fun x246 => (f9_reckons h v0 v1 x237 x246).bind fun x247 => (if x247.1 = (0 : Int64) then (some (v5 + (1 : Int32))).bind fun x311 => f9_chanceOf_193 v0 v1 n x247.2 x311 else f9_chanceOf_258 x247.2 v0 v1 x213)))
set_option maxRecDepth 100000 in
theorem vl9_chanceOf_193 {κ : Kx} (hc : CX κ RX9 cX9_chanceOf) (hr : RX κ ({ frames := 5, cells := 0, slots := 0, locals := 113 } : Room)) (hq : QX κ (some .int) 0 0) (hL : 9 = κ.2.2.2.2.1)  (v0 : Nat) (v1 : Int32) : ∀ n (h : AH) (v5 : Int32), V κ (wI) 0 0 193 [(0, .ref v0), (1, .int v1), (5, .int v5)] [] h (f9_chanceOf_193 v0 v1 n h v5) := by
  have hn : ∀ i, i < 9 → i < κ.2.2.2.2.1 := fun i q => hL ▸ q
  intro n
  induction n with
  | zero => intros; exact v_none
  | succ n ih =>
    intro h v5
    rw [f9_chanceOf_193.eq_2]
    refine v_iload (i := 5) hc 2 rfl dX9_chanceOf_193 ?_
    refine v_aload_n (i := 0) hc 0 rfl dX9_chanceOf_195 rfl ?_
    refine v_getV hc kX9 6 (by decide) w_1137 rfl dX9_chanceOf_196 (gR rfl fun x196 => ?_)
    refine v_iload_n (i := 1) hc 1 rfl dX9_chanceOf_199 rfl ?_
    refine v_iald hc dX9_chanceOf_200 fun x200 => ?_
    refine v_icmp_ge hc 317 dX9_chanceOf_201 rfl ?_ ?_
    · refine v_sipush (x := (500 : Int32)) hc dX9_chanceOf_317 zs_500 ?_
      exact v_iret hc hq rfl rfl (Nat.le_of_ble_eq_true rfl) (Nat.le_of_ble_eq_true rfl) rfl dX9_chanceOf_320
    · refine v_bipush (x := (48 : Int32)) hc dX9_chanceOf_204 zb_48 ?_
      refine v_iload_n (i := 1) hc 1 rfl dX9_chanceOf_206 rfl ?_
      refine v_imul hc dX9_chanceOf_207 ?_
      refine v_iconst (x := (4 : Int32)) hc dX9_chanceOf_208 zi_4 ?_
      refine v_iload (i := 5) hc 2 rfl dX9_chanceOf_209 ?_
      refine v_imul hc dX9_chanceOf_211 ?_
      refine v_iadd hc dX9_chanceOf_212 ?_
      refine v_nmI fun x213 => ?_
      refine v_istore (i := 6) (L' := [(6, .int x213), (0, .ref v0), (1, .int v1), (5, .int v5)]) hc dX9_chanceOf_213 (hn 6 (Nat.le_of_ble_eq_true rfl)) rfl ?_
      refine v_aload_n (i := 0) hc 1 rfl dX9_chanceOf_215 rfl ?_
      refine v_getV hc kX9 5 (by decide) w_1136 rfl dX9_chanceOf_216 (gR rfl fun x216 => ?_)
      refine v_iload (i := 6) hc 0 rfl dX9_chanceOf_219 ?_
      refine v_iconst (x := (2 : Int32)) hc dX9_chanceOf_221 zi_2 ?_
      refine v_iadd hc dX9_chanceOf_222 ?_
      refine v_iald hc dX9_chanceOf_223 fun x223 => ?_
      refine v_if_lt hc 258 dX9_chanceOf_224 rfl ?_ ?_
      · refine v_sub (L' := [(0, .ref v0), (1, .int v1), (6, .int x213)]) [1, 2, 0] rfl ?_
        exact vl9_chanceOf_258 hc hr hq hL h v0 v1 x213
      · refine v_aload_n (i := 0) hc 1 rfl dX9_chanceOf_227 rfl ?_
        refine v_iload_n (i := 1) hc 2 rfl dX9_chanceOf_228 rfl ?_
        refine v_aload_n (i := 0) hc 1 rfl dX9_chanceOf_229 rfl ?_
        refine v_getV hc kX9 5 (by decide) w_1136 rfl dX9_chanceOf_230 (gR rfl fun x230 => ?_)
        refine v_iload (i := 6) hc 0 rfl dX9_chanceOf_233 ?_
        refine v_iconst (x := (2 : Int32)) hc dX9_chanceOf_235 zi_2 ?_
        refine v_iadd hc dX9_chanceOf_236 ?_
        refine v_iald hc dX9_chanceOf_237 fun x237 => ?_
        refine v_aload_n (i := 0) hc 1 rfl dX9_chanceOf_238 rfl ?_
        refine v_getV hc kX9 5 (by decide) w_1136 rfl dX9_chanceOf_239 (gR rfl fun x239 => ?_)
        refine v_iload (i := 6) hc 0 rfl dX9_chanceOf_242 ?_
        refine v_iconst (x := (3 : Int32)) hc dX9_chanceOf_244 zi_3 ?_
        refine v_iadd hc dX9_chanceOf_245 ?_
        refine v_iald hc dX9_chanceOf_246 fun x246 => ?_
        refine v_cwL hc (m_V' (As := [.int v1, .int x237, .int x246]) (b := v0) (rest := []) 3 hc hr (fun l D tys base => ct9_reckons l D tys base h v0 v1 x237 x246) (fun x hx => ob9_reckons hx) rfl s9_reckons w_1520 rfl ⟨Nat.le_of_ble_eq_true rfl, Nat.le_of_ble_eq_true rfl⟩ ⟨Nat.le_of_ble_eq_true rfl, Nat.le_of_ble_eq_true rfl⟩ (Nat.le_of_ble_eq_true rfl) dX9_chanceOf_247) fun x247 => ?_
        refine v_lconst (x := (0 : Int64)) hc dX9_chanceOf_250 (by decide) ?_
        refine v_lcmp_ne hc 258 dX9_chanceOf_251 dX9_chanceOf_252 rfl ?_ ?_
        · refine v_sub (L' := [(0, .ref v0), (1, .int v1), (6, .int x213)]) [1, 2, 0] rfl ?_
          exact vl9_chanceOf_258 hc hr hq hL x247.2 v0 v1 x213
        · refine v_goto hc 311 dX9_chanceOf_255 rfl ?_
          refine v_iincN (i := 5) (y := (1 : Int32)) (L' := fun z => [(5, .int z), (6, .int x213), (0, .ref v0), (1, .int v1)]) hc 3 rfl dX9_chanceOf_311 zi_1 (hn 5 (Nat.le_of_ble_eq_true rfl)) (fun _ => rfl) fun x311 => ?_
          refine v_goto hc 193 dX9_chanceOf_314 rfl ?_
          refine v_sub (L' := [(0, .ref v0), (1, .int v1), (5, .int x311)]) [2, 3, 0] rfl ?_
          exact ih x247.2 x311
def f9_chanceOf_83 (h : AH) (v0 : Nat) (v1 : Int32) (v2 : Int32) (s0 : Nat) (s1 : Int32) (s2 : Int64) : Option (Int32 × AH) := (sL h s0 s1 s2).bind fun h83 => (fR 9 27 h83 v0).bind fun x85 => (f9_late h83 v0 v2).bind fun x91 => (sL h83 x85 (2 : Int32) x91.toInt64).bind fun h95 => (fR 9 27 h95 v0).bind fun x97 => (f9_pagesOf h95 v0 v2 (1 : Int32)).bind fun x104 => (sL h95 x97 (3 : Int32) x104.toInt64).bind fun h108 => (fR 9 27 h108 v0).bind fun x110 => (f9_pagesOf h108 v0 v2 (2 : Int32)).bind fun x117 => (sL h108 x110 (4 : Int32) x117.toInt64).bind fun h121 => (fR 9 27 h121 v0).bind fun x123 => (f9_pagesOf h121 v0 v2 (3 : Int32)).bind fun x130 => (sL h121 x123 (5 : Int32) x130.toInt64).bind fun h134 => (fR 9 27 h134 v0).bind fun x136 => (f9_pagesOf h134 v0 v2 (0 : Int32)).bind fun x144 => (sL h134 x136 (6 : Int32) x144.toInt64).bind fun h148 => (fR 9 27 h148 v0).bind fun x150 => (f9_pieceCell h148 v0 v2 (7 : Int32)).bind fun x159 => (sL h148 x150 (7 : Int32) x159.toInt64).bind fun h163 => (fR 9 27 h163 v0).bind fun x165 => (fR 9 0 h163 v0).bind fun x171 => (aI 0 h163 x171 (0 : Int32)).bind fun x175 => (sL h163 x165 (8 : Int32) x175.toInt64).bind fun h177 => (fR 9 27 h177 v0).bind fun x179 => (f9_volumes h177 v0).bind fun x185 => (sL h177 x179 (9 : Int32) x185.toInt64).bind fun h189 => f9_chanceOf_193 v0 v1 FU h189 (0 : Int32)
set_option maxRecDepth 100000 in
theorem vl9_chanceOf_83 {κ : Kx} (hc : CX κ RX9 cX9_chanceOf) (hr : RX κ ({ frames := 5, cells := 0, slots := 0, locals := 113 } : Room)) (hq : QX κ (some .int) 0 0) (hL : 9 = κ.2.2.2.2.1) (h : AH) (v0 : Nat) (v1 : Int32) (v2 : Int32) (s0 : Nat) (s1 : Int32) (s2 : Int64) : V κ (wI) 0 0 83 [(0, .ref v0), (1, .int v1), (2, .int v2)] [.long s2, .int s1, .ref s0] h (f9_chanceOf_83 h v0 v1 v2 s0 s1 s2) := by
  have hn : ∀ i, i < 9 → i < κ.2.2.2.2.1 := fun i q => hL ▸ q
  unfold f9_chanceOf_83
  refine v_last hc dX9_chanceOf_83 fun h83 => ?_
  refine v_aload_n (i := 0) hc 0 rfl dX9_chanceOf_84 rfl ?_
  refine v_getV hc kX9 27 (by decide) w_1158 rfl dX9_chanceOf_85 (gR rfl fun x85 => ?_)
  refine v_iconst (x := (2 : Int32)) hc dX9_chanceOf_88 zi_2 ?_
  refine v_aload_n (i := 0) hc 0 rfl dX9_chanceOf_89 rfl ?_
  refine v_iload_n (i := 2) hc 2 rfl dX9_chanceOf_90 rfl ?_
  refine v_cI hc (m_V' (As := [.int v2]) (b := v0) (rest := [.int (2 : Int32), .ref x85]) 1 hc hr (fun l D tys base => ct9_late l D tys base h83 v0 v2) (fun x hx => ob9_late hx) rfl s9_late w_1512 rfl ⟨Nat.le_of_ble_eq_true rfl, Nat.le_of_ble_eq_true rfl⟩ ⟨Nat.le_of_ble_eq_true rfl, Nat.le_of_ble_eq_true rfl⟩ (Nat.le_of_ble_eq_true rfl) dX9_chanceOf_91) fun x91 => ?_
  refine v_i2l hc dX9_chanceOf_94 ?_
  refine v_last hc dX9_chanceOf_95 fun h95 => ?_
  refine v_aload_n (i := 0) hc 0 rfl dX9_chanceOf_96 rfl ?_
  refine v_getV hc kX9 27 (by decide) w_1158 rfl dX9_chanceOf_97 (gR rfl fun x97 => ?_)
  refine v_iconst (x := (3 : Int32)) hc dX9_chanceOf_100 zi_3 ?_
  refine v_aload_n (i := 0) hc 0 rfl dX9_chanceOf_101 rfl ?_
  refine v_iload_n (i := 2) hc 2 rfl dX9_chanceOf_102 rfl ?_
  refine v_iconst (x := (1 : Int32)) hc dX9_chanceOf_103 zi_1 ?_
  refine v_cI hc (m_V' (As := [.int v2, .int (1 : Int32)]) (b := v0) (rest := [.int (3 : Int32), .ref x97]) 2 hc hr (fun l D tys base => ct9_pagesOf l D tys base h95 v0 v2 (1 : Int32)) (fun x hx => ob9_pagesOf hx) rfl s9_pagesOf w_1303 rfl ⟨Nat.le_of_ble_eq_true rfl, Nat.le_of_ble_eq_true rfl⟩ ⟨Nat.le_of_ble_eq_true rfl, Nat.le_of_ble_eq_true rfl⟩ (Nat.le_of_ble_eq_true rfl) dX9_chanceOf_104) fun x104 => ?_
  refine v_i2l hc dX9_chanceOf_107 ?_
  refine v_last hc dX9_chanceOf_108 fun h108 => ?_
  refine v_aload_n (i := 0) hc 0 rfl dX9_chanceOf_109 rfl ?_
  refine v_getV hc kX9 27 (by decide) w_1158 rfl dX9_chanceOf_110 (gR rfl fun x110 => ?_)
  refine v_iconst (x := (4 : Int32)) hc dX9_chanceOf_113 zi_4 ?_
  refine v_aload_n (i := 0) hc 0 rfl dX9_chanceOf_114 rfl ?_
  refine v_iload_n (i := 2) hc 2 rfl dX9_chanceOf_115 rfl ?_
  refine v_iconst (x := (2 : Int32)) hc dX9_chanceOf_116 zi_2 ?_
  refine v_cI hc (m_V' (As := [.int v2, .int (2 : Int32)]) (b := v0) (rest := [.int (4 : Int32), .ref x110]) 2 hc hr (fun l D tys base => ct9_pagesOf l D tys base h108 v0 v2 (2 : Int32)) (fun x hx => ob9_pagesOf hx) rfl s9_pagesOf w_1303 rfl ⟨Nat.le_of_ble_eq_true rfl, Nat.le_of_ble_eq_true rfl⟩ ⟨Nat.le_of_ble_eq_true rfl, Nat.le_of_ble_eq_true rfl⟩ (Nat.le_of_ble_eq_true rfl) dX9_chanceOf_117) fun x117 => ?_
  refine v_i2l hc dX9_chanceOf_120 ?_
  refine v_last hc dX9_chanceOf_121 fun h121 => ?_
  refine v_aload_n (i := 0) hc 0 rfl dX9_chanceOf_122 rfl ?_
  refine v_getV hc kX9 27 (by decide) w_1158 rfl dX9_chanceOf_123 (gR rfl fun x123 => ?_)
  refine v_iconst (x := (5 : Int32)) hc dX9_chanceOf_126 zi_5 ?_
  refine v_aload_n (i := 0) hc 0 rfl dX9_chanceOf_127 rfl ?_
  refine v_iload_n (i := 2) hc 2 rfl dX9_chanceOf_128 rfl ?_
  refine v_iconst (x := (3 : Int32)) hc dX9_chanceOf_129 zi_3 ?_
  refine v_cI hc (m_V' (As := [.int v2, .int (3 : Int32)]) (b := v0) (rest := [.int (5 : Int32), .ref x123]) 2 hc hr (fun l D tys base => ct9_pagesOf l D tys base h121 v0 v2 (3 : Int32)) (fun x hx => ob9_pagesOf hx) rfl s9_pagesOf w_1303 rfl ⟨Nat.le_of_ble_eq_true rfl, Nat.le_of_ble_eq_true rfl⟩ ⟨Nat.le_of_ble_eq_true rfl, Nat.le_of_ble_eq_true rfl⟩ (Nat.le_of_ble_eq_true rfl) dX9_chanceOf_130) fun x130 => ?_
  refine v_i2l hc dX9_chanceOf_133 ?_
  refine v_last hc dX9_chanceOf_134 fun h134 => ?_
  refine v_aload_n (i := 0) hc 0 rfl dX9_chanceOf_135 rfl ?_
  refine v_getV hc kX9 27 (by decide) w_1158 rfl dX9_chanceOf_136 (gR rfl fun x136 => ?_)
  refine v_bipush (x := (6 : Int32)) hc dX9_chanceOf_139 zb_6 ?_
  refine v_aload_n (i := 0) hc 0 rfl dX9_chanceOf_141 rfl ?_
  refine v_iload_n (i := 2) hc 2 rfl dX9_chanceOf_142 rfl ?_
  refine v_iconst (x := (0 : Int32)) hc dX9_chanceOf_143 zi_0 ?_
  refine v_cI hc (m_V' (As := [.int v2, .int (0 : Int32)]) (b := v0) (rest := [.int (6 : Int32), .ref x136]) 2 hc hr (fun l D tys base => ct9_pagesOf l D tys base h134 v0 v2 (0 : Int32)) (fun x hx => ob9_pagesOf hx) rfl s9_pagesOf w_1303 rfl ⟨Nat.le_of_ble_eq_true rfl, Nat.le_of_ble_eq_true rfl⟩ ⟨Nat.le_of_ble_eq_true rfl, Nat.le_of_ble_eq_true rfl⟩ (Nat.le_of_ble_eq_true rfl) dX9_chanceOf_144) fun x144 => ?_
  refine v_i2l hc dX9_chanceOf_147 ?_
  refine v_last hc dX9_chanceOf_148 fun h148 => ?_
  refine v_aload_n (i := 0) hc 0 rfl dX9_chanceOf_149 rfl ?_
  refine v_getV hc kX9 27 (by decide) w_1158 rfl dX9_chanceOf_150 (gR rfl fun x150 => ?_)
  refine v_bipush (x := (7 : Int32)) hc dX9_chanceOf_153 zb_7 ?_
  refine v_aload_n (i := 0) hc 0 rfl dX9_chanceOf_155 rfl ?_
  refine v_iload_n (i := 2) hc 2 rfl dX9_chanceOf_156 rfl ?_
  refine v_bipush (x := (7 : Int32)) hc dX9_chanceOf_157 zb_7 ?_
  refine v_cI hc (m_V' (As := [.int v2, .int (7 : Int32)]) (b := v0) (rest := [.int (7 : Int32), .ref x150]) 2 hc hr (fun l D tys base => ct9_pieceCell l D tys base h148 v0 v2 (7 : Int32)) (fun x hx => ob9_pieceCell hx) rfl s9_pieceCell w_1327 rfl ⟨Nat.le_of_ble_eq_true rfl, Nat.le_of_ble_eq_true rfl⟩ ⟨Nat.le_of_ble_eq_true rfl, Nat.le_of_ble_eq_true rfl⟩ (Nat.le_of_ble_eq_true rfl) dX9_chanceOf_159) fun x159 => ?_
  refine v_i2l hc dX9_chanceOf_162 ?_
  refine v_last hc dX9_chanceOf_163 fun h163 => ?_
  refine v_aload_n (i := 0) hc 0 rfl dX9_chanceOf_164 rfl ?_
  refine v_getV hc kX9 27 (by decide) w_1158 rfl dX9_chanceOf_165 (gR rfl fun x165 => ?_)
  refine v_bipush (x := (8 : Int32)) hc dX9_chanceOf_168 zb_8 ?_
  refine v_aload_n (i := 0) hc 0 rfl dX9_chanceOf_170 rfl ?_
  refine v_getV hc kX9 0 (by decide) w_1131 rfl dX9_chanceOf_171 (gR rfl fun x171 => ?_)
  refine v_iconst (x := (0 : Int32)) hc dX9_chanceOf_174 zi_0 ?_
  refine v_iald hc dX9_chanceOf_175 fun x175 => ?_
  refine v_i2l hc dX9_chanceOf_176 ?_
  refine v_last hc dX9_chanceOf_177 fun h177 => ?_
  refine v_aload_n (i := 0) hc 0 rfl dX9_chanceOf_178 rfl ?_
  refine v_getV hc kX9 27 (by decide) w_1158 rfl dX9_chanceOf_179 (gR rfl fun x179 => ?_)
  refine v_bipush (x := (9 : Int32)) hc dX9_chanceOf_182 zb_9 ?_
  refine v_aload_n (i := 0) hc 0 rfl dX9_chanceOf_184 rfl ?_
  refine v_cI hc (m_V' (As := []) (b := v0) (rest := [.int (9 : Int32), .ref x179]) 0 hc hr (fun l D tys base => ct9_volumes l D tys base h177 v0) (fun x hx => ob9_volumes hx) rfl s9_volumes w_1516 rfl ⟨Nat.le_of_ble_eq_true rfl, Nat.le_of_ble_eq_true rfl⟩ ⟨Nat.le_of_ble_eq_true rfl, Nat.le_of_ble_eq_true rfl⟩ (Nat.le_of_ble_eq_true rfl) dX9_chanceOf_185) fun x185 => ?_
  refine v_i2l hc dX9_chanceOf_188 ?_
  refine v_last hc dX9_chanceOf_189 fun h189 => ?_
  refine v_iconst (x := (0 : Int32)) hc dX9_chanceOf_190 zi_0 ?_
  refine v_istore (i := 5) (L' := [(5, .int (0 : Int32)), (0, .ref v0), (1, .int v1), (2, .int v2)]) hc dX9_chanceOf_191 (hn 5 (Nat.le_of_ble_eq_true rfl)) rfl ?_
  refine v_sub (L' := [(0, .ref v0), (1, .int v1), (5, .int (0 : Int32))]) [1, 2, 0] rfl ?_
  exact vl9_chanceOf_193 hc hr hq hL v0 v1 FU h189 (0 : Int32)
def f9_chanceOf_6 (h : AH) (v0 : Nat) (v1 : Int32) (v2 : Int32) (v3 : Int32) : Nat → Int32 → Int32 → Option (Int32 × AH)
  | 0, _, _ => none
  | n + 1, v4, v5 => (if (6 : Int32) ≤ v5 then (fR 9 27 h v0).bind fun x55 => (sL h x55 (0 : Int32) v4.toInt64).bind fun h62 => (fR 9 27 h62 v0).bind fun x64 => (f9_pieceCell h62 v0 v3 (0 : Int32)).bind fun x71 => (if x71 = (1 : Int32) then f9_chanceOf_83 h62 v0 v1 v2 x64 (1 : Int32) (0 : Int64) else f9_chanceOf_83 h62 v0 v1 v2 x64 (1 : Int32) (1 : Int64)) else (f9_pieceCell h v0 v2 v5).bind fun x17 => (f9_pieceCell h v0 v3 v5).bind fun x24 => (some (x17 - x24)).bind fun x28 => (if 0 ≤ x28 then (some (v4 + x28)).bind fun x46 => (some (v5 + (1 : Int32))).bind fun x48 => f9_chanceOf_6 h v0 v1 v2 v3 n x46 x48 else (some (v4 + (-x28))).bind fun x46 => (some (v5 + (1 : Int32))).bind fun x48 => f9_chanceOf_6 h v0 v1 v2 v3 n x46 x48))
set_option maxRecDepth 100000 in
theorem vl9_chanceOf_6 {κ : Kx} (hc : CX κ RX9 cX9_chanceOf) (hr : RX κ ({ frames := 5, cells := 0, slots := 0, locals := 113 } : Room)) (hq : QX κ (some .int) 0 0) (hL : 9 = κ.2.2.2.2.1)  (h : AH) (v0 : Nat) (v1 : Int32) (v2 : Int32) (v3 : Int32) : ∀ n (v4 : Int32) (v5 : Int32), V κ (wI) 0 0 6 [(0, .ref v0), (1, .int v1), (2, .int v2), (3, .int v3), (4, .int v4), (5, .int v5)] [] h (f9_chanceOf_6 h v0 v1 v2 v3 n v4 v5) := by
  have hn : ∀ i, i < 9 → i < κ.2.2.2.2.1 := fun i q => hL ▸ q
  intro n
  induction n with
  | zero => intros; exact v_none
  | succ n ih =>
    intro v4 v5
    rw [f9_chanceOf_6.eq_2]
    refine v_iload (i := 5) hc 5 rfl dX9_chanceOf_6 ?_
    refine v_bipush (x := (6 : Int32)) hc dX9_chanceOf_8 zb_6 ?_
    refine v_icmp_ge hc 54 dX9_chanceOf_10 rfl ?_ ?_
    · refine v_aload_n (i := 0) hc 0 rfl dX9_chanceOf_54 rfl ?_
      refine v_getV hc kX9 27 (by decide) w_1158 rfl dX9_chanceOf_55 (gR rfl fun x55 => ?_)
      refine v_iconst (x := (0 : Int32)) hc dX9_chanceOf_58 zi_0 ?_
      refine v_iload (i := 4) hc 4 rfl dX9_chanceOf_59 ?_
      refine v_i2l hc dX9_chanceOf_61 ?_
      refine v_last hc dX9_chanceOf_62 fun h62 => ?_
      refine v_aload_n (i := 0) hc 0 rfl dX9_chanceOf_63 rfl ?_
      refine v_getV hc kX9 27 (by decide) w_1158 rfl dX9_chanceOf_64 (gR rfl fun x64 => ?_)
      refine v_iconst (x := (1 : Int32)) hc dX9_chanceOf_67 zi_1 ?_
      refine v_aload_n (i := 0) hc 0 rfl dX9_chanceOf_68 rfl ?_
      refine v_iload_n (i := 3) hc 3 rfl dX9_chanceOf_69 rfl ?_
      refine v_iconst (x := (0 : Int32)) hc dX9_chanceOf_70 zi_0 ?_
      refine v_cI hc (m_V' (As := [.int v3, .int (0 : Int32)]) (b := v0) (rest := [.int (1 : Int32), .ref x64]) 2 hc hr (fun l D tys base => ct9_pieceCell l D tys base h62 v0 v3 (0 : Int32)) (fun x hx => ob9_pieceCell hx) rfl s9_pieceCell w_1327 rfl ⟨Nat.le_of_ble_eq_true rfl, Nat.le_of_ble_eq_true rfl⟩ ⟨Nat.le_of_ble_eq_true rfl, Nat.le_of_ble_eq_true rfl⟩ (Nat.le_of_ble_eq_true rfl) dX9_chanceOf_71) fun x71 => ?_
      refine v_iconst (x := (1 : Int32)) hc dX9_chanceOf_74 zi_1 ?_
      refine v_icmp_ne hc 82 dX9_chanceOf_75 rfl ?_ ?_
      · refine v_lconst (x := (1 : Int64)) hc dX9_chanceOf_82 (by decide) ?_
        refine v_sub (L' := [(0, .ref v0), (1, .int v1), (2, .int v2)]) [0, 1, 2] rfl ?_
        exact vl9_chanceOf_83 hc hr hq hL h62 v0 v1 v2 x64 (1 : Int32) (1 : Int64)
      · refine v_lconst (x := (0 : Int64)) hc dX9_chanceOf_78 (by decide) ?_
        refine v_goto hc 83 dX9_chanceOf_79 rfl ?_
        refine v_sub (L' := [(0, .ref v0), (1, .int v1), (2, .int v2)]) [0, 1, 2] rfl ?_
        exact vl9_chanceOf_83 hc hr hq hL h62 v0 v1 v2 x64 (1 : Int32) (0 : Int64)
    · refine v_aload_n (i := 0) hc 0 rfl dX9_chanceOf_13 rfl ?_
      refine v_iload_n (i := 2) hc 2 rfl dX9_chanceOf_14 rfl ?_
      refine v_iload (i := 5) hc 5 rfl dX9_chanceOf_15 ?_
      refine v_cI hc (m_V' (As := [.int v2, .int v5]) (b := v0) (rest := []) 2 hc hr (fun l D tys base => ct9_pieceCell l D tys base h v0 v2 v5) (fun x hx => ob9_pieceCell hx) rfl s9_pieceCell w_1327 rfl ⟨Nat.le_of_ble_eq_true rfl, Nat.le_of_ble_eq_true rfl⟩ ⟨Nat.le_of_ble_eq_true rfl, Nat.le_of_ble_eq_true rfl⟩ (Nat.le_of_ble_eq_true rfl) dX9_chanceOf_17) fun x17 => ?_
      refine v_aload_n (i := 0) hc 0 rfl dX9_chanceOf_20 rfl ?_
      refine v_iload_n (i := 3) hc 3 rfl dX9_chanceOf_21 rfl ?_
      refine v_iload (i := 5) hc 5 rfl dX9_chanceOf_22 ?_
      refine v_cI hc (m_V' (As := [.int v3, .int v5]) (b := v0) (rest := [.int x17]) 2 hc hr (fun l D tys base => ct9_pieceCell l D tys base h v0 v3 v5) (fun x hx => ob9_pieceCell hx) rfl s9_pieceCell w_1327 rfl ⟨Nat.le_of_ble_eq_true rfl, Nat.le_of_ble_eq_true rfl⟩ ⟨Nat.le_of_ble_eq_true rfl, Nat.le_of_ble_eq_true rfl⟩ (Nat.le_of_ble_eq_true rfl) dX9_chanceOf_24) fun x24 => ?_
      refine v_isub hc dX9_chanceOf_27 ?_
      refine v_nmI fun x28 => ?_
      refine v_istore (i := 6) (L' := [(6, .int x28), (0, .ref v0), (1, .int v1), (2, .int v2), (3, .int v3), (4, .int v4), (5, .int v5)]) hc dX9_chanceOf_28 (hn 6 (Nat.le_of_ble_eq_true rfl)) rfl ?_
      refine v_iload (i := 4) hc 5 rfl dX9_chanceOf_30 ?_
      refine v_iload (i := 6) hc 0 rfl dX9_chanceOf_32 ?_
      refine v_if_ge hc 43 dX9_chanceOf_34 rfl ?_ ?_
      · refine v_iload (i := 6) hc 0 rfl dX9_chanceOf_43 ?_
        refine v_iadd hc dX9_chanceOf_45 ?_
        refine v_nmI fun x46 => ?_
        refine v_istore (i := 4) (L' := [(4, .int x46), (6, .int x28), (0, .ref v0), (1, .int v1), (2, .int v2), (3, .int v3), (5, .int v5)]) hc dX9_chanceOf_46 (hn 4 (Nat.le_of_ble_eq_true rfl)) rfl ?_
        refine v_iincN (i := 5) (y := (1 : Int32)) (L' := fun z => [(5, .int z), (4, .int x46), (6, .int x28), (0, .ref v0), (1, .int v1), (2, .int v2), (3, .int v3)]) hc 6 rfl dX9_chanceOf_48 zi_1 (hn 5 (Nat.le_of_ble_eq_true rfl)) (fun _ => rfl) fun x48 => ?_
        refine v_goto hc 6 dX9_chanceOf_51 rfl ?_
        refine v_sub (L' := [(0, .ref v0), (1, .int v1), (2, .int v2), (3, .int v3), (4, .int x46), (5, .int x48)]) [3, 4, 5, 6, 1, 0] rfl ?_
        exact ih x46 x48
      · refine v_iload (i := 6) hc 0 rfl dX9_chanceOf_37 ?_
        refine v_ineg hc dX9_chanceOf_39 ?_
        refine v_goto hc 45 dX9_chanceOf_40 rfl ?_
        refine v_iadd hc dX9_chanceOf_45 ?_
        refine v_nmI fun x46 => ?_
        refine v_istore (i := 4) (L' := [(4, .int x46), (6, .int x28), (0, .ref v0), (1, .int v1), (2, .int v2), (3, .int v3), (5, .int v5)]) hc dX9_chanceOf_46 (hn 4 (Nat.le_of_ble_eq_true rfl)) rfl ?_
        refine v_iincN (i := 5) (y := (1 : Int32)) (L' := fun z => [(5, .int z), (4, .int x46), (6, .int x28), (0, .ref v0), (1, .int v1), (2, .int v2), (3, .int v3)]) hc 6 rfl dX9_chanceOf_48 zi_1 (hn 5 (Nat.le_of_ble_eq_true rfl)) (fun _ => rfl) fun x48 => ?_
        refine v_goto hc 6 dX9_chanceOf_51 rfl ?_
        refine v_sub (L' := [(0, .ref v0), (1, .int v1), (2, .int v2), (3, .int v3), (4, .int x46), (5, .int x48)]) [3, 4, 5, 6, 1, 0] rfl ?_
        exact ih x46 x48
def f9_chanceOf (h : AH) (this : Nat) (p0 : Int32) (p1 : Int32) (p2 : Int32) : Option (Int32 × AH) := (hObj 9 h this).bind fun _ => f9_chanceOf_6 h this p0 p1 p2 FU (0 : Int32) (1 : Int32)
theorem ob9_chanceOf {h : AH} {this : Nat} {p0 : Int32} {p1 : Int32} {p2 : Int32} {x : Int32 × AH} (e : f9_chanceOf h this p0 p1 p2 = some x) : ∃ fs, hObj 9 h this = some fs := by
  unfold f9_chanceOf at e
  obtain ⟨fs, h1, -⟩ := bd e
  exact ⟨fs, h1⟩
set_option maxRecDepth 100000 in
theorem ct9_chanceOf (l : Launch) (D : va_G) (tys : Tys) (base : Nat) (h : AH) (this : Nat) (p0 : Int32) (p1 : Int32) (p2 : Int32) : Ct l D tys base yX9_chanceOf cX9_chanceOf 9 (some .int) 5 113 0 0 [.ref this, .int p0, .int p1, .int p2] h (wI) (f9_chanceOf h this p0 p1 p2) := by
  refine Ct.intro (own := RX9) (L := [(0, .ref this), (1, .int p0), (2, .int p1), (3, .int p2)]) rfl (by decide) rfl (Nat.le_of_ble_eq_true rfl) fun κ hc hr hq hi hL => ?_
  have hn : ∀ i, i < 9 → i < κ.2.2.2.2.1 := fun i q => hL ▸ q
  unfold f9_chanceOf
  refine v_obj ?_
  refine v_iconst (x := (0 : Int32)) hc dX9_chanceOf_0 zi_0 ?_
  refine v_istore (i := 4) (L' := [(4, .int (0 : Int32)), (0, .ref this), (1, .int p0), (2, .int p1), (3, .int p2)]) hc dX9_chanceOf_1 (hn 4 (Nat.le_of_ble_eq_true rfl)) rfl ?_
  refine v_iconst (x := (1 : Int32)) hc dX9_chanceOf_3 zi_1 ?_
  refine v_istore (i := 5) (L' := [(5, .int (1 : Int32)), (4, .int (0 : Int32)), (0, .ref this), (1, .int p0), (2, .int p1), (3, .int p2)]) hc dX9_chanceOf_4 (hn 5 (Nat.le_of_ble_eq_true rfl)) rfl ?_
  refine v_sub (L' := [(0, .ref this), (1, .int p0), (2, .int p1), (3, .int p2), (4, .int (0 : Int32)), (5, .int (1 : Int32))]) [2, 3, 4, 5, 1, 0] rfl ?_
  exact vl9_chanceOf_6 hc hr hq hL h this p0 p1 p2 FU (0 : Int32) (1 : Int32)
theorem s9_chanceOf : YV yX9_chanceOf RX9 cX9_chanceOf 9 (some .int) 3 := ⟨w_1511, w_1510, w_91, w_118, rfl, by decide +kernel, by decide +kernel, by decide +kernel⟩
def f9_chance (h : AH) (this : Nat) (p0 : Int32) (p1 : Int32) (p2 : Int32) : Option (Int32 × AH) := (hObj 9 h this).bind fun _ => (f9_isReader h this p0).bind fun x2 => (if x2 = true then (f9_areTwo h this p1 p2).bind fun x11 => (if x11 = true then (f9_chanceOf h this p0 p1 p2).bind fun x21 => some (x21.1, x21.2) else some ((-1 : Int32), h)) else some ((-1 : Int32), h))
theorem ob9_chance {h : AH} {this : Nat} {p0 : Int32} {p1 : Int32} {p2 : Int32} {x : Int32 × AH} (e : f9_chance h this p0 p1 p2 = some x) : ∃ fs, hObj 9 h this = some fs := by
  unfold f9_chance at e
  obtain ⟨fs, h1, -⟩ := bd e
  exact ⟨fs, h1⟩
set_option maxRecDepth 100000 in
theorem ct9_chance (l : Launch) (D : va_G) (tys : Tys) (base : Nat) (h : AH) (this : Nat) (p0 : Int32) (p1 : Int32) (p2 : Int32) : Ct l D tys base yX9_chance cX9_chance 4 (some .int) 6 141 0 0 [.ref this, .int p0, .int p1, .int p2] h (wI) (f9_chance h this p0 p1 p2) := by
  refine Ct.intro (own := RX9) (L := [(0, .ref this), (1, .int p0), (2, .int p1), (3, .int p2)]) rfl (by decide) rfl (Nat.le_of_ble_eq_true rfl) fun κ hc hr hq hi hL => ?_
  have hn : ∀ i, i < 4 → i < κ.2.2.2.2.1 := fun i q => hL ▸ q
  unfold f9_chance
  refine v_obj ?_
  refine v_aload_n (i := 0) hc 0 rfl dX9_chance_0 rfl ?_
  refine v_iload_n (i := 1) hc 1 rfl dX9_chance_1 rfl ?_
  refine v_cB hc (m_V' (As := [.int p0]) (b := this) (rest := []) 1 hc hr (fun l D tys base => ct9_isReader l D tys base h this p0) (fun x hx => ob9_isReader hx) rfl s9_isReader w_1500 rfl ⟨Nat.le_of_ble_eq_true rfl, Nat.le_of_ble_eq_true rfl⟩ ⟨Nat.le_of_ble_eq_true rfl, Nat.le_of_ble_eq_true rfl⟩ (Nat.le_of_ble_eq_true rfl) dX9_chance_2) fun x2 => ?_
  refine v_ifb_eq hc 27 dX9_chance_5 rfl ?_ ?_
  · refine v_iconst (x := (-1 : Int32)) hc dX9_chance_27 zi_m1 ?_
    exact v_iret hc hq rfl rfl (Nat.le_of_ble_eq_true rfl) (Nat.le_of_ble_eq_true rfl) rfl dX9_chance_28
  · refine v_aload_n (i := 0) hc 0 rfl dX9_chance_8 rfl ?_
    refine v_iload_n (i := 2) hc 2 rfl dX9_chance_9 rfl ?_
    refine v_iload_n (i := 3) hc 3 rfl dX9_chance_10 rfl ?_
    refine v_cB hc (m_V' (As := [.int p1, .int p2]) (b := this) (rest := []) 2 hc hr (fun l D tys base => ct9_areTwo l D tys base h this p1 p2) (fun x hx => ob9_areTwo hx) rfl s9_areTwo w_1504 rfl ⟨Nat.le_of_ble_eq_true rfl, Nat.le_of_ble_eq_true rfl⟩ ⟨Nat.le_of_ble_eq_true rfl, Nat.le_of_ble_eq_true rfl⟩ (Nat.le_of_ble_eq_true rfl) dX9_chance_11) fun x11 => ?_
    refine v_ifb_eq hc 27 dX9_chance_14 rfl ?_ ?_
    · refine v_iconst (x := (-1 : Int32)) hc dX9_chance_27 zi_m1 ?_
      exact v_iret hc hq rfl rfl (Nat.le_of_ble_eq_true rfl) (Nat.le_of_ble_eq_true rfl) rfl dX9_chance_28
    · refine v_aload_n (i := 0) hc 0 rfl dX9_chance_17 rfl ?_
      refine v_iload_n (i := 1) hc 1 rfl dX9_chance_18 rfl ?_
      refine v_iload_n (i := 2) hc 2 rfl dX9_chance_19 rfl ?_
      refine v_iload_n (i := 3) hc 3 rfl dX9_chance_20 rfl ?_
      refine v_cwI hc (m_V' (As := [.int p0, .int p1, .int p2]) (b := this) (rest := []) 3 hc hr (fun l D tys base => ct9_chanceOf l D tys base h this p0 p1 p2) (fun x hx => ob9_chanceOf hx) rfl s9_chanceOf w_1508 rfl ⟨Nat.le_of_ble_eq_true rfl, Nat.le_of_ble_eq_true rfl⟩ ⟨Nat.le_of_ble_eq_true rfl, Nat.le_of_ble_eq_true rfl⟩ (Nat.le_of_ble_eq_true rfl) dX9_chance_21) fun x21 => ?_
      refine v_goto hc 28 dX9_chance_24 rfl ?_
      exact v_iret hc hq rfl rfl (Nat.le_of_ble_eq_true rfl) (Nat.le_of_ble_eq_true rfl) rfl dX9_chance_28
theorem s9_chance : YV yX9_chance RX9 cX9_chance 4 (some .int) 3 := ⟨w_1499, w_1497, w_1498, w_118, rfl, by decide +kernel, by decide +kernel, by decide +kernel⟩
def f9_tells (h : AH) (this : Nat) (p0 : Int32) (p1 : Int32) (p2 : Int32) (p3 : Int32) : Option (Int32 × AH) := (hObj 9 h this).bind fun _ => (f9_isReader h this p0).bind fun x2 => (if x2 = true then (f9_areTwo h this p1 p2).bind fun x11 => (if x11 = true then (f9_areTwo h this p1 p3).bind fun x21 => (if x21 = true then (f9_areTwo h this p2 p3).bind fun x31 => (if x31 = true then (f9_chanceOf h this p0 p1 p3).bind fun x46 => (f9_chanceOf x46.2 this p0 p2 p3).bind fun x54 => some (x46.1 - x54.1, x54.2) else some ((-2000 : Int32), h)) else some ((-2000 : Int32), h)) else some ((-2000 : Int32), h)) else some ((-2000 : Int32), h))
theorem ob9_tells {h : AH} {this : Nat} {p0 : Int32} {p1 : Int32} {p2 : Int32} {p3 : Int32} {x : Int32 × AH} (e : f9_tells h this p0 p1 p2 p3 = some x) : ∃ fs, hObj 9 h this = some fs := by
  unfold f9_tells at e
  obtain ⟨fs, h1, -⟩ := bd e
  exact ⟨fs, h1⟩
set_option maxRecDepth 100000 in
theorem ct9_tells (l : Launch) (D : va_G) (tys : Tys) (base : Nat) (h : AH) (this : Nat) (p0 : Int32) (p1 : Int32) (p2 : Int32) (p3 : Int32) : Ct l D tys base yX9_tells cX9_tells 5 (some .int) 6 141 0 0 [.ref this, .int p0, .int p1, .int p2, .int p3] h (wI) (f9_tells h this p0 p1 p2 p3) := by
  refine Ct.intro (own := RX9) (L := [(0, .ref this), (1, .int p0), (2, .int p1), (3, .int p2), (4, .int p3)]) rfl (by decide) rfl (Nat.le_of_ble_eq_true rfl) fun κ hc hr hq hi hL => ?_
  have hn : ∀ i, i < 5 → i < κ.2.2.2.2.1 := fun i q => hL ▸ q
  unfold f9_tells
  refine v_obj ?_
  refine v_aload_n (i := 0) hc 0 rfl dX9_tells_0 rfl ?_
  refine v_iload_n (i := 1) hc 1 rfl dX9_tells_1 rfl ?_
  refine v_cB hc (m_V' (As := [.int p0]) (b := this) (rest := []) 1 hc hr (fun l D tys base => ct9_isReader l D tys base h this p0) (fun x hx => ob9_isReader hx) rfl s9_isReader w_1500 rfl ⟨Nat.le_of_ble_eq_true rfl, Nat.le_of_ble_eq_true rfl⟩ ⟨Nat.le_of_ble_eq_true rfl, Nat.le_of_ble_eq_true rfl⟩ (Nat.le_of_ble_eq_true rfl) dX9_tells_2) fun x2 => ?_
  refine v_ifb_eq hc 37 dX9_tells_5 rfl ?_ ?_
  · refine v_sipush (x := (-2000 : Int32)) hc dX9_tells_37 zs_m2000 ?_
    exact v_iret hc hq rfl rfl (Nat.le_of_ble_eq_true rfl) (Nat.le_of_ble_eq_true rfl) rfl dX9_tells_40
  · refine v_aload_n (i := 0) hc 0 rfl dX9_tells_8 rfl ?_
    refine v_iload_n (i := 2) hc 2 rfl dX9_tells_9 rfl ?_
    refine v_iload_n (i := 3) hc 3 rfl dX9_tells_10 rfl ?_
    refine v_cB hc (m_V' (As := [.int p1, .int p2]) (b := this) (rest := []) 2 hc hr (fun l D tys base => ct9_areTwo l D tys base h this p1 p2) (fun x hx => ob9_areTwo hx) rfl s9_areTwo w_1504 rfl ⟨Nat.le_of_ble_eq_true rfl, Nat.le_of_ble_eq_true rfl⟩ ⟨Nat.le_of_ble_eq_true rfl, Nat.le_of_ble_eq_true rfl⟩ (Nat.le_of_ble_eq_true rfl) dX9_tells_11) fun x11 => ?_
    refine v_ifb_eq hc 37 dX9_tells_14 rfl ?_ ?_
    · refine v_sipush (x := (-2000 : Int32)) hc dX9_tells_37 zs_m2000 ?_
      exact v_iret hc hq rfl rfl (Nat.le_of_ble_eq_true rfl) (Nat.le_of_ble_eq_true rfl) rfl dX9_tells_40
    · refine v_aload_n (i := 0) hc 0 rfl dX9_tells_17 rfl ?_
      refine v_iload_n (i := 2) hc 2 rfl dX9_tells_18 rfl ?_
      refine v_iload (i := 4) hc 4 rfl dX9_tells_19 ?_
      refine v_cB hc (m_V' (As := [.int p1, .int p3]) (b := this) (rest := []) 2 hc hr (fun l D tys base => ct9_areTwo l D tys base h this p1 p3) (fun x hx => ob9_areTwo hx) rfl s9_areTwo w_1504 rfl ⟨Nat.le_of_ble_eq_true rfl, Nat.le_of_ble_eq_true rfl⟩ ⟨Nat.le_of_ble_eq_true rfl, Nat.le_of_ble_eq_true rfl⟩ (Nat.le_of_ble_eq_true rfl) dX9_tells_21) fun x21 => ?_
      refine v_ifb_eq hc 37 dX9_tells_24 rfl ?_ ?_
      · refine v_sipush (x := (-2000 : Int32)) hc dX9_tells_37 zs_m2000 ?_
        exact v_iret hc hq rfl rfl (Nat.le_of_ble_eq_true rfl) (Nat.le_of_ble_eq_true rfl) rfl dX9_tells_40
      · refine v_aload_n (i := 0) hc 0 rfl dX9_tells_27 rfl ?_
        refine v_iload_n (i := 3) hc 3 rfl dX9_tells_28 rfl ?_
        refine v_iload (i := 4) hc 4 rfl dX9_tells_29 ?_
        refine v_cB hc (m_V' (As := [.int p2, .int p3]) (b := this) (rest := []) 2 hc hr (fun l D tys base => ct9_areTwo l D tys base h this p2 p3) (fun x hx => ob9_areTwo hx) rfl s9_areTwo w_1504 rfl ⟨Nat.le_of_ble_eq_true rfl, Nat.le_of_ble_eq_true rfl⟩ ⟨Nat.le_of_ble_eq_true rfl, Nat.le_of_ble_eq_true rfl⟩ (Nat.le_of_ble_eq_true rfl) dX9_tells_31) fun x31 => ?_
        refine v_ifb_ne hc 41 dX9_tells_34 rfl ?_ ?_
        · refine v_aload_n (i := 0) hc 0 rfl dX9_tells_41 rfl ?_
          refine v_iload_n (i := 1) hc 1 rfl dX9_tells_42 rfl ?_
          refine v_iload_n (i := 2) hc 2 rfl dX9_tells_43 rfl ?_
          refine v_iload (i := 4) hc 4 rfl dX9_tells_44 ?_
          refine v_cwI hc (m_V' (As := [.int p0, .int p1, .int p3]) (b := this) (rest := []) 3 hc hr (fun l D tys base => ct9_chanceOf l D tys base h this p0 p1 p3) (fun x hx => ob9_chanceOf hx) rfl s9_chanceOf w_1508 rfl ⟨Nat.le_of_ble_eq_true rfl, Nat.le_of_ble_eq_true rfl⟩ ⟨Nat.le_of_ble_eq_true rfl, Nat.le_of_ble_eq_true rfl⟩ (Nat.le_of_ble_eq_true rfl) dX9_tells_46) fun x46 => ?_
          refine v_aload_n (i := 0) hc 0 rfl dX9_tells_49 rfl ?_
          refine v_iload_n (i := 1) hc 1 rfl dX9_tells_50 rfl ?_
          refine v_iload_n (i := 3) hc 3 rfl dX9_tells_51 rfl ?_
          refine v_iload (i := 4) hc 4 rfl dX9_tells_52 ?_
          refine v_cwI hc (m_V' (As := [.int p0, .int p2, .int p3]) (b := this) (rest := [.int x46.1]) 3 hc hr (fun l D tys base => ct9_chanceOf l D tys base x46.2 this p0 p2 p3) (fun x hx => ob9_chanceOf hx) rfl s9_chanceOf w_1508 rfl ⟨Nat.le_of_ble_eq_true rfl, Nat.le_of_ble_eq_true rfl⟩ ⟨Nat.le_of_ble_eq_true rfl, Nat.le_of_ble_eq_true rfl⟩ (Nat.le_of_ble_eq_true rfl) dX9_tells_54) fun x54 => ?_
          refine v_isub hc dX9_tells_57 ?_
          exact v_iret hc hq rfl rfl (Nat.le_of_ble_eq_true rfl) (Nat.le_of_ble_eq_true rfl) rfl dX9_tells_58
        · refine v_sipush (x := (-2000 : Int32)) hc dX9_tells_37 zs_m2000 ?_
          exact v_iret hc hq rfl rfl (Nat.le_of_ble_eq_true rfl) (Nat.le_of_ble_eq_true rfl) rfl dX9_tells_40
theorem s9_tells : YV yX9_tells RX9 cX9_tells 5 (some .int) 4 := ⟨w_1539, w_1537, w_1538, w_118, rfl, by decide +kernel, by decide +kernel, by decide +kernel⟩
def f9_isClose (h : AH) (this : Nat) (p0 : Int32) : Option (Bool) := (hObj 9 h this).bind fun _ => (fR 9 0 h this).bind fun x1 => (aI 0 h x1 (0 : Int32)).bind fun x5 => (f9_pieceCell h this p0 (9 : Int32)).bind fun x10 => (if x10 ≤ x5 then some false else some true)
theorem ob9_isClose {h : AH} {this : Nat} {p0 : Int32} {x : Bool} (e : f9_isClose h this p0 = some x) : ∃ fs, hObj 9 h this = some fs := by
  unfold f9_isClose at e
  obtain ⟨fs, h1, -⟩ := bd e
  exact ⟨fs, h1⟩
set_option maxRecDepth 100000 in
theorem ct9_isClose (l : Launch) (D : va_G) (tys : Tys) (base : Nat) (h : AH) (this : Nat) (p0 : Int32) : Ct l D tys base yX9_isClose cX9_isClose 2 (some .boolean) 1 22 0 0 [.ref this, .int p0] h (rB h) (f9_isClose h this p0) := by
  refine Ct.intro (own := RX9) (L := [(0, .ref this), (1, .int p0)]) rfl (by decide) rfl (Nat.le_of_ble_eq_true rfl) fun κ hc hr hq hi hL => ?_
  have hn : ∀ i, i < 2 → i < κ.2.2.2.2.1 := fun i q => hL ▸ q
  unfold f9_isClose
  refine v_obj ?_
  refine v_aload_n (i := 0) hc 0 rfl dX9_isClose_0 rfl ?_
  refine v_getV hc kX9 0 (by decide) w_1131 rfl dX9_isClose_1 (gR rfl fun x1 => ?_)
  refine v_iconst (x := (0 : Int32)) hc dX9_isClose_4 zi_0 ?_
  refine v_iald hc dX9_isClose_5 fun x5 => ?_
  refine v_aload_n (i := 0) hc 0 rfl dX9_isClose_6 rfl ?_
  refine v_iload_n (i := 1) hc 1 rfl dX9_isClose_7 rfl ?_
  refine v_bipush (x := (9 : Int32)) hc dX9_isClose_8 zb_9 ?_
  refine v_cI hc (m_V' (As := [.int p0, .int (9 : Int32)]) (b := this) (rest := [.int x5]) 2 hc hr (fun l D tys base => ct9_pieceCell l D tys base h this p0 (9 : Int32)) (fun x hx => ob9_pieceCell hx) rfl s9_pieceCell w_1327 rfl ⟨Nat.le_of_ble_eq_true rfl, Nat.le_of_ble_eq_true rfl⟩ ⟨Nat.le_of_ble_eq_true rfl, Nat.le_of_ble_eq_true rfl⟩ (Nat.le_of_ble_eq_true rfl) dX9_isClose_10) fun x10 => ?_
  refine v_icmp_ge hc 20 dX9_isClose_13 rfl ?_ ?_
  · refine v_iconst (x := (0 : Int32)) hc dX9_isClose_20 zi_0 ?_
    exact v_iret (v := bI false) hc hq rfl (nar_b false) (Nat.le_of_ble_eq_true rfl) (Nat.le_of_ble_eq_true rfl) rfl dX9_isClose_21
  · refine v_iconst (x := (1 : Int32)) hc dX9_isClose_16 zi_1 ?_
    refine v_goto hc 21 dX9_isClose_17 rfl ?_
    exact v_iret (v := bI true) hc hq rfl (nar_b true) (Nat.le_of_ble_eq_true rfl) (Nat.le_of_ble_eq_true rfl) rfl dX9_isClose_21
theorem s9_isClose : YV yX9_isClose RX9 cX9_isClose 2 (some .boolean) 1 := ⟨w_1547, w_1546, w_97, w_118, rfl, by decide +kernel, by decide +kernel, by decide +kernel⟩
def f9_drawn (h : AH) (p0 : Int64) : Option (Int64) := if (2147483648 : Int64) = 0 then none else (some (((p0 * (1103515245 : Int64)) + (12345 : Int64)) - ((p0 * (1103515245 : Int64)) + (12345 : Int64)) / (2147483648 : Int64) * (2147483648 : Int64))).bind fun z12 => some z12
set_option maxRecDepth 100000 in
theorem ct9_drawn (l : Launch) (D : va_G) (tys : Tys) (base : Nat) (h : AH) (p0 : Int64) : Ct l D tys base yX9_drawn cX9_drawn 2 (some .long) 0 0 0 0 [.long p0] h (rL h) (f9_drawn h p0) := by
  refine Ct.intro (own := RX9) (L := [(0, .long p0)]) rfl (by decide) rfl (Nat.le_of_ble_eq_true rfl) fun κ hc hr hq hi hL => ?_
  have hn : ∀ i, i < 2 → i < κ.2.2.2.2.1 := fun i q => hL ▸ q
  unfold f9_drawn
  refine v_lload_n (i := 0) hc 0 rfl dX9_drawn_0 rfl ?_
  refine v_ldc2 (x := (1103515245 : Int64)) hc w_1551 dX9_drawn_1 ?_
  refine v_lmul hc dX9_drawn_4 ?_
  refine v_ldc2 (x := (12345 : Int64)) hc w_1552 dX9_drawn_5 ?_
  refine v_ladd hc dX9_drawn_8 ?_
  refine v_ldc2 (x := (2147483648 : Int64)) hc w_1553 dX9_drawn_9 ?_
  refine v_lremN hc dX9_drawn_12 fun z12 => ?_
  exact v_lret hc hq (Nat.le_of_ble_eq_true rfl) (Nat.le_of_ble_eq_true rfl) rfl dX9_drawn_13
theorem s9_drawn : YS yX9_drawn cX9_drawn 2 (some .long) 1 := ⟨w_1550, w_1549, w_118, by decide +kernel, by decide +kernel, by decide +kernel⟩
def f9_look_149 (h : AH) (v0 : Nat) (v5 : Bool) (v6 : Int32) (v7 : Int32) (s0 : Nat) (s1 : Int32) (s2 : Bool) : Option (Int32 × AH) := (sI 0 h s0 s1 (bI s2)).bind fun h149 => (fR 9 0 h149 v0).bind fun x151 => (sI 0 h149 x151 (v6 + (3 : Int32)) (bI v5)).bind fun h160 => (fR 9 0 h160 v0).bind fun x162 => (if (520 : Int32) ≤ v7 then (sI 0 h160 x162 (v6 + (4 : Int32)) (519 : Int32)).bind fun h185 => (fR 9 0 h185 v0).bind fun x187 => (aI 0 h185 x187 (6 : Int32)).bind fun x193 => (sI 0 h185 x187 (6 : Int32) (x193 + (1 : Int32))).bind fun h196 => some ((bI v5), h196) else (sI 0 h160 x162 (v6 + (4 : Int32)) v7).bind fun h185 => (fR 9 0 h185 v0).bind fun x187 => (aI 0 h185 x187 (6 : Int32)).bind fun x193 => (sI 0 h185 x187 (6 : Int32) (x193 + (1 : Int32))).bind fun h196 => some ((bI v5), h196))
set_option maxRecDepth 100000 in
theorem vl9_look_149 {κ : Kx} (hc : CX κ RX9 cX9_look) (hr : RX κ ({ frames := 6, cells := 0, slots := 0, locals := 141 } : Room)) (hq : QX κ (some .int) 0 0) (hL : 8 = κ.2.2.2.2.1) (h : AH) (v0 : Nat) (v5 : Bool) (v6 : Int32) (v7 : Int32) (s0 : Nat) (s1 : Int32) (s2 : Bool) : V κ (wI) 0 0 149 [(0, .ref v0), (5, .int (bI v5)), (6, .int v6), (7, .int v7)] [.int (bI s2), .int s1, .ref s0] h (f9_look_149 h v0 v5 v6 v7 s0 s1 s2) := by
  have hn : ∀ i, i < 8 → i < κ.2.2.2.2.1 := fun i q => hL ▸ q
  unfold f9_look_149
  refine v_iast hc dX9_look_149 fun h149 => ?_
  refine v_aload_n (i := 0) hc 0 rfl dX9_look_150 rfl ?_
  refine v_getV hc kX9 0 (by decide) w_1131 rfl dX9_look_151 (gR rfl fun x151 => ?_)
  refine v_iload (i := 6) hc 2 rfl dX9_look_154 ?_
  refine v_iconst (x := (3 : Int32)) hc dX9_look_156 zi_3 ?_
  refine v_iadd hc dX9_look_157 ?_
  refine v_iload (i := 5) hc 1 rfl dX9_look_158 ?_
  refine v_iast hc dX9_look_160 fun h160 => ?_
  refine v_aload_n (i := 0) hc 0 rfl dX9_look_161 rfl ?_
  refine v_getV hc kX9 0 (by decide) w_1131 rfl dX9_look_162 (gR rfl fun x162 => ?_)
  refine v_iload (i := 6) hc 2 rfl dX9_look_165 ?_
  refine v_iconst (x := (4 : Int32)) hc dX9_look_167 zi_4 ?_
  refine v_iadd hc dX9_look_168 ?_
  refine v_iload (i := 7) hc 3 rfl dX9_look_169 ?_
  refine v_sipush (x := (520 : Int32)) hc dX9_look_171 zs_520 ?_
  refine v_icmp_ge hc 182 dX9_look_174 rfl ?_ ?_
  · refine v_sipush (x := (519 : Int32)) hc dX9_look_182 zs_519 ?_
    refine v_iast hc dX9_look_185 fun h185 => ?_
    refine v_aload_n (i := 0) hc 0 rfl dX9_look_186 rfl ?_
    refine v_getV hc kX9 0 (by decide) w_1131 rfl dX9_look_187 (gR rfl fun x187 => ?_)
    refine v_bipush (x := (6 : Int32)) hc dX9_look_190 zb_6 ?_
    refine v_dup2 hc dX9_look_192 rfl rfl ?_
    refine v_iald hc dX9_look_193 fun x193 => ?_
    refine v_iconst (x := (1 : Int32)) hc dX9_look_194 zi_1 ?_
    refine v_iadd hc dX9_look_195 ?_
    refine v_iast hc dX9_look_196 fun h196 => ?_
    refine v_iload (i := 5) hc 1 rfl dX9_look_197 ?_
    exact v_iret hc hq rfl rfl (Nat.le_of_ble_eq_true rfl) (Nat.le_of_ble_eq_true rfl) rfl dX9_look_199
  · refine v_iload (i := 7) hc 3 rfl dX9_look_177 ?_
    refine v_goto hc 185 dX9_look_179 rfl ?_
    refine v_iast hc dX9_look_185 fun h185 => ?_
    refine v_aload_n (i := 0) hc 0 rfl dX9_look_186 rfl ?_
    refine v_getV hc kX9 0 (by decide) w_1131 rfl dX9_look_187 (gR rfl fun x187 => ?_)
    refine v_bipush (x := (6 : Int32)) hc dX9_look_190 zb_6 ?_
    refine v_dup2 hc dX9_look_192 rfl rfl ?_
    refine v_iald hc dX9_look_193 fun x193 => ?_
    refine v_iconst (x := (1 : Int32)) hc dX9_look_194 zi_1 ?_
    refine v_iadd hc dX9_look_195 ?_
    refine v_iast hc dX9_look_196 fun h196 => ?_
    refine v_iload (i := 5) hc 1 rfl dX9_look_197 ?_
    exact v_iret hc hq rfl rfl (Nat.le_of_ble_eq_true rfl) (Nat.le_of_ble_eq_true rfl) rfl dX9_look_199
def f9_look_76 (h : AH) (v0 : Nat) (v1 : Int32) (v2 : Int32) (v3 : Int32) (s0 : Bool) : Option (Int32 × AH) := (fR 9 0 h v0).bind fun x83 => (aI 0 h x83 (6 : Int32)).bind fun x88 => (some ((3430 : Int32) + ((5 : Int32) * x88))).bind fun x91 => (fR 9 0 h v0).bind fun x94 => (aI 0 h x94 (0 : Int32)).bind fun x98 => (fR 9 7 h v0).bind fun x100 => (aI 0 h x100 v1).bind fun x104 => (some (x98 + x104)).bind fun x106 => (fR 9 0 h v0).bind fun x109 => (sI 0 h x109 x91 v1).bind fun h115 => (fR 9 0 h115 v0).bind fun x117 => (sI 0 h115 x117 (x91 + (1 : Int32)) v2).bind fun h125 => (fR 9 0 h125 v0).bind fun x127 => (f9_pieceCell h125 v0 v3 (0 : Int32)).bind fun x137 => (if x137 = (1 : Int32) then f9_look_149 h125 v0 s0 x91 x106 x127 (x91 + (2 : Int32)) true else f9_look_149 h125 v0 s0 x91 x106 x127 (x91 + (2 : Int32)) false)
set_option maxRecDepth 100000 in
theorem vl9_look_76 {κ : Kx} (hc : CX κ RX9 cX9_look) (hr : RX κ ({ frames := 6, cells := 0, slots := 0, locals := 141 } : Room)) (hq : QX κ (some .int) 0 0) (hL : 8 = κ.2.2.2.2.1) (h : AH) (v0 : Nat) (v1 : Int32) (v2 : Int32) (v3 : Int32) (s0 : Bool) : V κ (wI) 0 0 76 [(0, .ref v0), (1, .int v1), (2, .int v2), (3, .int v3)] [.int (bI s0)] h (f9_look_76 h v0 v1 v2 v3 s0) := by
  have hn : ∀ i, i < 8 → i < κ.2.2.2.2.1 := fun i q => hL ▸ q
  unfold f9_look_76
  refine v_istore (i := 5) (L' := [(5, .int (bI s0)), (0, .ref v0), (1, .int v1), (2, .int v2), (3, .int v3)]) hc dX9_look_76 (hn 5 (Nat.le_of_ble_eq_true rfl)) rfl ?_
  refine v_sipush (x := (3430 : Int32)) hc dX9_look_78 zs_3430 ?_
  refine v_iconst (x := (5 : Int32)) hc dX9_look_81 zi_5 ?_
  refine v_aload_n (i := 0) hc 1 rfl dX9_look_82 rfl ?_
  refine v_getV hc kX9 0 (by decide) w_1131 rfl dX9_look_83 (gR rfl fun x83 => ?_)
  refine v_bipush (x := (6 : Int32)) hc dX9_look_86 zb_6 ?_
  refine v_iald hc dX9_look_88 fun x88 => ?_
  refine v_imul hc dX9_look_89 ?_
  refine v_iadd hc dX9_look_90 ?_
  refine v_nmI fun x91 => ?_
  refine v_istore (i := 6) (L' := [(6, .int x91), (5, .int (bI s0)), (0, .ref v0), (1, .int v1), (2, .int v2), (3, .int v3)]) hc dX9_look_91 (hn 6 (Nat.le_of_ble_eq_true rfl)) rfl ?_
  refine v_aload_n (i := 0) hc 2 rfl dX9_look_93 rfl ?_
  refine v_getV hc kX9 0 (by decide) w_1131 rfl dX9_look_94 (gR rfl fun x94 => ?_)
  refine v_iconst (x := (0 : Int32)) hc dX9_look_97 zi_0 ?_
  refine v_iald hc dX9_look_98 fun x98 => ?_
  refine v_aload_n (i := 0) hc 2 rfl dX9_look_99 rfl ?_
  refine v_getV hc kX9 7 (by decide) w_1138 rfl dX9_look_100 (gR rfl fun x100 => ?_)
  refine v_iload_n (i := 1) hc 3 rfl dX9_look_103 rfl ?_
  refine v_iald hc dX9_look_104 fun x104 => ?_
  refine v_iadd hc dX9_look_105 ?_
  refine v_nmI fun x106 => ?_
  refine v_istore (i := 7) (L' := [(7, .int x106), (6, .int x91), (5, .int (bI s0)), (0, .ref v0), (1, .int v1), (2, .int v2), (3, .int v3)]) hc dX9_look_106 (hn 7 (Nat.le_of_ble_eq_true rfl)) rfl ?_
  refine v_aload_n (i := 0) hc 3 rfl dX9_look_108 rfl ?_
  refine v_getV hc kX9 0 (by decide) w_1131 rfl dX9_look_109 (gR rfl fun x109 => ?_)
  refine v_iload (i := 6) hc 1 rfl dX9_look_112 ?_
  refine v_iload_n (i := 1) hc 4 rfl dX9_look_114 rfl ?_
  refine v_iast hc dX9_look_115 fun h115 => ?_
  refine v_aload_n (i := 0) hc 3 rfl dX9_look_116 rfl ?_
  refine v_getV hc kX9 0 (by decide) w_1131 rfl dX9_look_117 (gR rfl fun x117 => ?_)
  refine v_iload (i := 6) hc 1 rfl dX9_look_120 ?_
  refine v_iconst (x := (1 : Int32)) hc dX9_look_122 zi_1 ?_
  refine v_iadd hc dX9_look_123 ?_
  refine v_iload_n (i := 2) hc 5 rfl dX9_look_124 rfl ?_
  refine v_iast hc dX9_look_125 fun h125 => ?_
  refine v_aload_n (i := 0) hc 3 rfl dX9_look_126 rfl ?_
  refine v_getV hc kX9 0 (by decide) w_1131 rfl dX9_look_127 (gR rfl fun x127 => ?_)
  refine v_iload (i := 6) hc 1 rfl dX9_look_130 ?_
  refine v_iconst (x := (2 : Int32)) hc dX9_look_132 zi_2 ?_
  refine v_iadd hc dX9_look_133 ?_
  refine v_aload_n (i := 0) hc 3 rfl dX9_look_134 rfl ?_
  refine v_iload_n (i := 3) hc 6 rfl dX9_look_135 rfl ?_
  refine v_iconst (x := (0 : Int32)) hc dX9_look_136 zi_0 ?_
  refine v_cI hc (m_V' (As := [.int v3, .int (0 : Int32)]) (b := v0) (rest := [.int (x91 + (2 : Int32)), .ref x127]) 2 hc hr (fun l D tys base => ct9_pieceCell l D tys base h125 v0 v3 (0 : Int32)) (fun x hx => ob9_pieceCell hx) rfl s9_pieceCell w_1327 rfl ⟨Nat.le_of_ble_eq_true rfl, Nat.le_of_ble_eq_true rfl⟩ ⟨Nat.le_of_ble_eq_true rfl, Nat.le_of_ble_eq_true rfl⟩ (Nat.le_of_ble_eq_true rfl) dX9_look_137) fun x137 => ?_
  refine v_iconst (x := (1 : Int32)) hc dX9_look_140 zi_1 ?_
  refine v_icmp_ne hc 148 dX9_look_141 rfl ?_ ?_
  · refine v_iconst (x := (0 : Int32)) hc dX9_look_148 zi_0 ?_
    refine v_sub (L' := [(0, .ref v0), (5, .int (bI s0)), (6, .int x91), (7, .int x106)]) [3, 2, 1, 0] rfl ?_
    exact vl9_look_149 hc hr hq hL h125 v0 s0 x91 x106 x127 (x91 + (2 : Int32)) false
  · refine v_iconst (x := (1 : Int32)) hc dX9_look_144 zi_1 ?_
    refine v_goto hc 149 dX9_look_145 rfl ?_
    refine v_sub (L' := [(0, .ref v0), (5, .int (bI s0)), (6, .int x91), (7, .int x106)]) [3, 2, 1, 0] rfl ?_
    exact vl9_look_149 hc hr hq hL h125 v0 s0 x91 x106 x127 (x91 + (2 : Int32)) true
def f9_look (h : AH) (this : Nat) (p0 : Int32) (p1 : Int32) (p2 : Int32) (p3 : Int32) : Option (Int32 × AH) := (hObj 9 h this).bind fun _ => (fR 9 0 h this).bind fun x1 => (aI 0 h x1 (6 : Int32)).bind fun x6 => (if x6 = (200 : Int32) then some ((-1 : Int32), h) else (f9_isReader h this p0).bind fun x15 => (if x15 = true then (f9_areTwo h this p1 p2).bind fun x24 => (if x24 = true then (if p3 < 0 then some ((-1 : Int32), h) else (f9_isClose h this p1).bind fun x37 => (if x37 = true then some ((-1 : Int32), h) else (f9_drawn h p3.toInt64).bind fun x48 => if (65536 : Int64) = 0 then none else (some (x48 / (65536 : Int64))).bind fun z54 => if (1000 : Int64) = 0 then none else (some (z54 - z54 / (1000 : Int64) * (1000 : Int64))).bind fun z58 => (f9_chanceOf h this p0 p1 p2).bind fun x63 => (if x63.1.toInt64 ≤ z58 then f9_look_76 x63.2 this p0 p1 p2 false else f9_look_76 x63.2 this p0 p1 p2 true))) else some ((-1 : Int32), h)) else some ((-1 : Int32), h)))
theorem ob9_look {h : AH} {this : Nat} {p0 : Int32} {p1 : Int32} {p2 : Int32} {p3 : Int32} {x : Int32 × AH} (e : f9_look h this p0 p1 p2 p3 = some x) : ∃ fs, hObj 9 h this = some fs := by
  unfold f9_look at e
  obtain ⟨fs, h1, -⟩ := bd e
  exact ⟨fs, h1⟩
set_option maxRecDepth 100000 in
theorem ct9_look (l : Launch) (D : va_G) (tys : Tys) (base : Nat) (h : AH) (this : Nat) (p0 : Int32) (p1 : Int32) (p2 : Int32) (p3 : Int32) : Ct l D tys base yX9_look cX9_look 8 (some .int) 6 141 0 0 [.ref this, .int p0, .int p1, .int p2, .int p3] h (wI) (f9_look h this p0 p1 p2 p3) := by
  refine Ct.intro (own := RX9) (L := [(0, .ref this), (1, .int p0), (2, .int p1), (3, .int p2), (4, .int p3)]) rfl (by decide) rfl (Nat.le_of_ble_eq_true rfl) fun κ hc hr hq hi hL => ?_
  have hn : ∀ i, i < 8 → i < κ.2.2.2.2.1 := fun i q => hL ▸ q
  unfold f9_look
  refine v_obj ?_
  refine v_aload_n (i := 0) hc 0 rfl dX9_look_0 rfl ?_
  refine v_getV hc kX9 0 (by decide) w_1131 rfl dX9_look_1 (gR rfl fun x1 => ?_)
  refine v_bipush (x := (6 : Int32)) hc dX9_look_4 zb_6 ?_
  refine v_iald hc dX9_look_6 fun x6 => ?_
  refine v_sipush (x := (200 : Int32)) hc dX9_look_7 zs_200 ?_
  refine v_icmp_eq hc 43 dX9_look_10 rfl ?_ ?_
  · refine v_iconst (x := (-1 : Int32)) hc dX9_look_43 zi_m1 ?_
    exact v_iret hc hq rfl rfl (Nat.le_of_ble_eq_true rfl) (Nat.le_of_ble_eq_true rfl) rfl dX9_look_44
  · refine v_aload_n (i := 0) hc 0 rfl dX9_look_13 rfl ?_
    refine v_iload_n (i := 1) hc 1 rfl dX9_look_14 rfl ?_
    refine v_cB hc (m_V' (As := [.int p0]) (b := this) (rest := []) 1 hc hr (fun l D tys base => ct9_isReader l D tys base h this p0) (fun x hx => ob9_isReader hx) rfl s9_isReader w_1500 rfl ⟨Nat.le_of_ble_eq_true rfl, Nat.le_of_ble_eq_true rfl⟩ ⟨Nat.le_of_ble_eq_true rfl, Nat.le_of_ble_eq_true rfl⟩ (Nat.le_of_ble_eq_true rfl) dX9_look_15) fun x15 => ?_
    refine v_ifb_eq hc 43 dX9_look_18 rfl ?_ ?_
    · refine v_iconst (x := (-1 : Int32)) hc dX9_look_43 zi_m1 ?_
      exact v_iret hc hq rfl rfl (Nat.le_of_ble_eq_true rfl) (Nat.le_of_ble_eq_true rfl) rfl dX9_look_44
    · refine v_aload_n (i := 0) hc 0 rfl dX9_look_21 rfl ?_
      refine v_iload_n (i := 2) hc 2 rfl dX9_look_22 rfl ?_
      refine v_iload_n (i := 3) hc 3 rfl dX9_look_23 rfl ?_
      refine v_cB hc (m_V' (As := [.int p1, .int p2]) (b := this) (rest := []) 2 hc hr (fun l D tys base => ct9_areTwo l D tys base h this p1 p2) (fun x hx => ob9_areTwo hx) rfl s9_areTwo w_1504 rfl ⟨Nat.le_of_ble_eq_true rfl, Nat.le_of_ble_eq_true rfl⟩ ⟨Nat.le_of_ble_eq_true rfl, Nat.le_of_ble_eq_true rfl⟩ (Nat.le_of_ble_eq_true rfl) dX9_look_24) fun x24 => ?_
      refine v_ifb_eq hc 43 dX9_look_27 rfl ?_ ?_
      · refine v_iconst (x := (-1 : Int32)) hc dX9_look_43 zi_m1 ?_
        exact v_iret hc hq rfl rfl (Nat.le_of_ble_eq_true rfl) (Nat.le_of_ble_eq_true rfl) rfl dX9_look_44
      · refine v_iload (i := 4) hc 4 rfl dX9_look_30 ?_
        refine v_if_lt hc 43 dX9_look_32 rfl ?_ ?_
        · refine v_iconst (x := (-1 : Int32)) hc dX9_look_43 zi_m1 ?_
          exact v_iret hc hq rfl rfl (Nat.le_of_ble_eq_true rfl) (Nat.le_of_ble_eq_true rfl) rfl dX9_look_44
        · refine v_aload_n (i := 0) hc 0 rfl dX9_look_35 rfl ?_
          refine v_iload_n (i := 2) hc 2 rfl dX9_look_36 rfl ?_
          refine v_cB hc (m_V' (As := [.int p1]) (b := this) (rest := []) 1 hc hr (fun l D tys base => ct9_isClose l D tys base h this p1) (fun x hx => ob9_isClose hx) rfl s9_isClose w_1544 rfl ⟨Nat.le_of_ble_eq_true rfl, Nat.le_of_ble_eq_true rfl⟩ ⟨Nat.le_of_ble_eq_true rfl, Nat.le_of_ble_eq_true rfl⟩ (Nat.le_of_ble_eq_true rfl) dX9_look_37) fun x37 => ?_
          refine v_ifb_eq hc 45 dX9_look_40 rfl ?_ ?_
          · refine v_iload (i := 4) hc 4 rfl dX9_look_45 ?_
            refine v_i2l hc dX9_look_47 ?_
            refine v_cL hc (m_S' (As := [.long p3.toInt64]) (rest := []) 1 hc hr (fun l D tys base => ct9_drawn l D tys base h p3.toInt64) s9_drawn w_1548 rfl ⟨Nat.le_of_ble_eq_true rfl, Nat.le_of_ble_eq_true rfl⟩ ⟨Nat.le_of_ble_eq_true rfl, Nat.le_of_ble_eq_true rfl⟩ (Nat.le_of_ble_eq_true rfl) dX9_look_48) fun x48 => ?_
            refine v_ldc2 (x := (65536 : Int64)) hc w_1554 dX9_look_51 ?_
            refine v_ldivN hc dX9_look_54 fun z54 => ?_
            refine v_ldc2 (x := (1000 : Int64)) hc w_1535 dX9_look_55 ?_
            refine v_lremN hc dX9_look_58 fun z58 => ?_
            refine v_aload_n (i := 0) hc 0 rfl dX9_look_59 rfl ?_
            refine v_iload_n (i := 1) hc 1 rfl dX9_look_60 rfl ?_
            refine v_iload_n (i := 2) hc 2 rfl dX9_look_61 rfl ?_
            refine v_iload_n (i := 3) hc 3 rfl dX9_look_62 rfl ?_
            refine v_cwI hc (m_V' (As := [.int p0, .int p1, .int p2]) (b := this) (rest := [.long z58]) 3 hc hr (fun l D tys base => ct9_chanceOf l D tys base h this p0 p1 p2) (fun x hx => ob9_chanceOf hx) rfl s9_chanceOf w_1508 rfl ⟨Nat.le_of_ble_eq_true rfl, Nat.le_of_ble_eq_true rfl⟩ ⟨Nat.le_of_ble_eq_true rfl, Nat.le_of_ble_eq_true rfl⟩ (Nat.le_of_ble_eq_true rfl) dX9_look_63) fun x63 => ?_
            refine v_i2l hc dX9_look_66 ?_
            refine v_lcmp_ge hc 75 dX9_look_67 dX9_look_68 rfl ?_ ?_
            · refine v_iconst (x := (0 : Int32)) hc dX9_look_75 zi_0 ?_
              refine v_sub (L' := [(0, .ref this), (1, .int p0), (2, .int p1), (3, .int p2)]) [0, 1, 2, 3] rfl ?_
              exact vl9_look_76 hc hr hq hL x63.2 this p0 p1 p2 false
            · refine v_iconst (x := (1 : Int32)) hc dX9_look_71 zi_1 ?_
              refine v_goto hc 76 dX9_look_72 rfl ?_
              refine v_sub (L' := [(0, .ref this), (1, .int p0), (2, .int p1), (3, .int p2)]) [0, 1, 2, 3] rfl ?_
              exact vl9_look_76 hc hr hq hL x63.2 this p0 p1 p2 true
          · refine v_iconst (x := (-1 : Int32)) hc dX9_look_43 zi_m1 ?_
            exact v_iret hc hq rfl rfl (Nat.le_of_ble_eq_true rfl) (Nat.le_of_ble_eq_true rfl) rfl dX9_look_44
theorem s9_look : YV yX9_look RX9 cX9_look 8 (some .int) 4 := ⟨w_1543, w_1541, w_1542, w_118, rfl, by decide +kernel, by decide +kernel, by decide +kernel⟩
def f9_test (h : AH) (this : Nat) (p0 : Int32) (p1 : Int32) : Option (Int32 × AH) := (hObj 9 h this).bind fun _ => (fR 9 0 h this).bind fun x1 => (aI 0 h x1 (7 : Int32)).bind fun x6 => (if x6 = (200 : Int32) then some ((-1 : Int32), h) else (f9_isPiece h this p0).bind fun x15 => (if x15 = true then (fR 9 0 h this).bind fun x25 => (aI 0 h x25 (1 : Int32)).bind fun x29 => (f9_in h p1.toInt64 (0 : Int64) ((x29 - (1 : Int32)).toInt64)).bind fun x33 => (if x33 = true then (f9_pieceCell h this p0 (6 : Int32)).bind fun x43 => (if ((x43 >>> (p1 &&& 31)) &&& (1 : Int32)) = 0 then some ((-1 : Int32), h) else (f9_isClose h this p0).bind fun x55 => (if x55 = true then some ((-1 : Int32), h) else (fR 9 0 h this).bind fun x68 => (aI 0 h x68 (7 : Int32)).bind fun x73 => (some ((4430 : Int32) + ((3 : Int32) * x73))).bind fun x76 => (fR 9 0 h this).bind fun x78 => (sI 0 h x78 x76 p0).bind fun h83 => (fR 9 0 h83 this).bind fun x85 => (sI 0 h83 x85 (x76 + (1 : Int32)) p1).bind fun h92 => (fR 9 0 h92 this).bind fun x94 => (fR 9 0 h92 this).bind fun x101 => (aI 0 h92 x101 (0 : Int32)).bind fun x105 => (sI 0 h92 x94 (x76 + (2 : Int32)) x105).bind fun h106 => (fR 9 0 h106 this).bind fun x108 => (aI 0 h106 x108 (7 : Int32)).bind fun x114 => (sI 0 h106 x108 (7 : Int32) (x114 + (1 : Int32))).bind fun h117 => (f9_young h117 this p0).bind fun x120 => some ((x120 >>> (p1 &&& 31)) &&& (1 : Int32), h117))) else some ((-1 : Int32), h)) else some ((-1 : Int32), h)))
theorem ob9_test {h : AH} {this : Nat} {p0 : Int32} {p1 : Int32} {x : Int32 × AH} (e : f9_test h this p0 p1 = some x) : ∃ fs, hObj 9 h this = some fs := by
  unfold f9_test at e
  obtain ⟨fs, h1, -⟩ := bd e
  exact ⟨fs, h1⟩
set_option maxRecDepth 100000 in
theorem ct9_test (l : Launch) (D : va_G) (tys : Tys) (base : Nat) (h : AH) (this : Nat) (p0 : Int32) (p1 : Int32) : Ct l D tys base yX9_test cX9_test 4 (some .int) 2 46 0 0 [.ref this, .int p0, .int p1] h (wI) (f9_test h this p0 p1) := by
  refine Ct.intro (own := RX9) (L := [(0, .ref this), (1, .int p0), (2, .int p1)]) rfl (by decide) rfl (Nat.le_of_ble_eq_true rfl) fun κ hc hr hq hi hL => ?_
  have hn : ∀ i, i < 4 → i < κ.2.2.2.2.1 := fun i q => hL ▸ q
  unfold f9_test
  refine v_obj ?_
  refine v_aload_n (i := 0) hc 0 rfl dX9_test_0 rfl ?_
  refine v_getV hc kX9 0 (by decide) w_1131 rfl dX9_test_1 (gR rfl fun x1 => ?_)
  refine v_bipush (x := (7 : Int32)) hc dX9_test_4 zb_7 ?_
  refine v_iald hc dX9_test_6 fun x6 => ?_
  refine v_sipush (x := (200 : Int32)) hc dX9_test_7 zs_200 ?_
  refine v_icmp_eq hc 61 dX9_test_10 rfl ?_ ?_
  · refine v_iconst (x := (-1 : Int32)) hc dX9_test_61 zi_m1 ?_
    exact v_iret hc hq rfl rfl (Nat.le_of_ble_eq_true rfl) (Nat.le_of_ble_eq_true rfl) rfl dX9_test_62
  · refine v_aload_n (i := 0) hc 0 rfl dX9_test_13 rfl ?_
    refine v_iload_n (i := 1) hc 1 rfl dX9_test_14 rfl ?_
    refine v_cB hc (m_V' (As := [.int p0]) (b := this) (rest := []) 1 hc hr (fun l D tys base => ct9_isPiece l D tys base h this p0) (fun x hx => ob9_isPiece hx) rfl s9_isPiece w_1286 rfl ⟨Nat.le_of_ble_eq_true rfl, Nat.le_of_ble_eq_true rfl⟩ ⟨Nat.le_of_ble_eq_true rfl, Nat.le_of_ble_eq_true rfl⟩ (Nat.le_of_ble_eq_true rfl) dX9_test_15) fun x15 => ?_
    refine v_ifb_eq hc 61 dX9_test_18 rfl ?_ ?_
    · refine v_iconst (x := (-1 : Int32)) hc dX9_test_61 zi_m1 ?_
      exact v_iret hc hq rfl rfl (Nat.le_of_ble_eq_true rfl) (Nat.le_of_ble_eq_true rfl) rfl dX9_test_62
    · refine v_iload_n (i := 2) hc 2 rfl dX9_test_21 rfl ?_
      refine v_i2l hc dX9_test_22 ?_
      refine v_lconst (x := (0 : Int64)) hc dX9_test_23 (by decide) ?_
      refine v_aload_n (i := 0) hc 0 rfl dX9_test_24 rfl ?_
      refine v_getV hc kX9 0 (by decide) w_1131 rfl dX9_test_25 (gR rfl fun x25 => ?_)
      refine v_iconst (x := (1 : Int32)) hc dX9_test_28 zi_1 ?_
      refine v_iald hc dX9_test_29 fun x29 => ?_
      refine v_iconst (x := (1 : Int32)) hc dX9_test_30 zi_1 ?_
      refine v_isub hc dX9_test_31 ?_
      refine v_i2l hc dX9_test_32 ?_
      refine v_cB hc (m_S' (As := [.long p1.toInt64, .long (0 : Int64), .long ((x29 - (1 : Int32)).toInt64)]) (rest := []) 3 hc hr (fun l D tys base => ct9_in l D tys base h p1.toInt64 (0 : Int64) ((x29 - (1 : Int32)).toInt64)) s9_in w_1246 rfl ⟨Nat.le_of_ble_eq_true rfl, Nat.le_of_ble_eq_true rfl⟩ ⟨Nat.le_of_ble_eq_true rfl, Nat.le_of_ble_eq_true rfl⟩ (Nat.le_of_ble_eq_true rfl) dX9_test_33) fun x33 => ?_
      refine v_ifb_eq hc 61 dX9_test_36 rfl ?_ ?_
      · refine v_iconst (x := (-1 : Int32)) hc dX9_test_61 zi_m1 ?_
        exact v_iret hc hq rfl rfl (Nat.le_of_ble_eq_true rfl) (Nat.le_of_ble_eq_true rfl) rfl dX9_test_62
      · refine v_aload_n (i := 0) hc 0 rfl dX9_test_39 rfl ?_
        refine v_iload_n (i := 1) hc 1 rfl dX9_test_40 rfl ?_
        refine v_bipush (x := (6 : Int32)) hc dX9_test_41 zb_6 ?_
        refine v_cI hc (m_V' (As := [.int p0, .int (6 : Int32)]) (b := this) (rest := []) 2 hc hr (fun l D tys base => ct9_pieceCell l D tys base h this p0 (6 : Int32)) (fun x hx => ob9_pieceCell hx) rfl s9_pieceCell w_1327 rfl ⟨Nat.le_of_ble_eq_true rfl, Nat.le_of_ble_eq_true rfl⟩ ⟨Nat.le_of_ble_eq_true rfl, Nat.le_of_ble_eq_true rfl⟩ (Nat.le_of_ble_eq_true rfl) dX9_test_43) fun x43 => ?_
        refine v_iload_n (i := 2) hc 2 rfl dX9_test_46 rfl ?_
        refine v_ishr hc dX9_test_47 ?_
        refine v_iconst (x := (1 : Int32)) hc dX9_test_48 zi_1 ?_
        refine v_iand hc dX9_test_49 ?_
        refine v_if_eq hc 61 dX9_test_50 rfl ?_ ?_
        · refine v_iconst (x := (-1 : Int32)) hc dX9_test_61 zi_m1 ?_
          exact v_iret hc hq rfl rfl (Nat.le_of_ble_eq_true rfl) (Nat.le_of_ble_eq_true rfl) rfl dX9_test_62
        · refine v_aload_n (i := 0) hc 0 rfl dX9_test_53 rfl ?_
          refine v_iload_n (i := 1) hc 1 rfl dX9_test_54 rfl ?_
          refine v_cB hc (m_V' (As := [.int p0]) (b := this) (rest := []) 1 hc hr (fun l D tys base => ct9_isClose l D tys base h this p0) (fun x hx => ob9_isClose hx) rfl s9_isClose w_1544 rfl ⟨Nat.le_of_ble_eq_true rfl, Nat.le_of_ble_eq_true rfl⟩ ⟨Nat.le_of_ble_eq_true rfl, Nat.le_of_ble_eq_true rfl⟩ (Nat.le_of_ble_eq_true rfl) dX9_test_55) fun x55 => ?_
          refine v_ifb_eq hc 63 dX9_test_58 rfl ?_ ?_
          · refine v_sipush (x := (4430 : Int32)) hc dX9_test_63 zs_4430 ?_
            refine v_iconst (x := (3 : Int32)) hc dX9_test_66 zi_3 ?_
            refine v_aload_n (i := 0) hc 0 rfl dX9_test_67 rfl ?_
            refine v_getV hc kX9 0 (by decide) w_1131 rfl dX9_test_68 (gR rfl fun x68 => ?_)
            refine v_bipush (x := (7 : Int32)) hc dX9_test_71 zb_7 ?_
            refine v_iald hc dX9_test_73 fun x73 => ?_
            refine v_imul hc dX9_test_74 ?_
            refine v_iadd hc dX9_test_75 ?_
            refine v_nmI fun x76 => ?_
            refine v_istore_n (i := 3) (L' := [(3, .int x76), (0, .ref this), (1, .int p0), (2, .int p1)]) hc dX9_test_76 rfl (hn 3 (Nat.le_of_ble_eq_true rfl)) rfl ?_
            refine v_aload_n (i := 0) hc 1 rfl dX9_test_77 rfl ?_
            refine v_getV hc kX9 0 (by decide) w_1131 rfl dX9_test_78 (gR rfl fun x78 => ?_)
            refine v_iload_n (i := 3) hc 0 rfl dX9_test_81 rfl ?_
            refine v_iload_n (i := 1) hc 2 rfl dX9_test_82 rfl ?_
            refine v_iast hc dX9_test_83 fun h83 => ?_
            refine v_aload_n (i := 0) hc 1 rfl dX9_test_84 rfl ?_
            refine v_getV hc kX9 0 (by decide) w_1131 rfl dX9_test_85 (gR rfl fun x85 => ?_)
            refine v_iload_n (i := 3) hc 0 rfl dX9_test_88 rfl ?_
            refine v_iconst (x := (1 : Int32)) hc dX9_test_89 zi_1 ?_
            refine v_iadd hc dX9_test_90 ?_
            refine v_iload_n (i := 2) hc 3 rfl dX9_test_91 rfl ?_
            refine v_iast hc dX9_test_92 fun h92 => ?_
            refine v_aload_n (i := 0) hc 1 rfl dX9_test_93 rfl ?_
            refine v_getV hc kX9 0 (by decide) w_1131 rfl dX9_test_94 (gR rfl fun x94 => ?_)
            refine v_iload_n (i := 3) hc 0 rfl dX9_test_97 rfl ?_
            refine v_iconst (x := (2 : Int32)) hc dX9_test_98 zi_2 ?_
            refine v_iadd hc dX9_test_99 ?_
            refine v_aload_n (i := 0) hc 1 rfl dX9_test_100 rfl ?_
            refine v_getV hc kX9 0 (by decide) w_1131 rfl dX9_test_101 (gR rfl fun x101 => ?_)
            refine v_iconst (x := (0 : Int32)) hc dX9_test_104 zi_0 ?_
            refine v_iald hc dX9_test_105 fun x105 => ?_
            refine v_iast hc dX9_test_106 fun h106 => ?_
            refine v_aload_n (i := 0) hc 1 rfl dX9_test_107 rfl ?_
            refine v_getV hc kX9 0 (by decide) w_1131 rfl dX9_test_108 (gR rfl fun x108 => ?_)
            refine v_bipush (x := (7 : Int32)) hc dX9_test_111 zb_7 ?_
            refine v_dup2 hc dX9_test_113 rfl rfl ?_
            refine v_iald hc dX9_test_114 fun x114 => ?_
            refine v_iconst (x := (1 : Int32)) hc dX9_test_115 zi_1 ?_
            refine v_iadd hc dX9_test_116 ?_
            refine v_iast hc dX9_test_117 fun h117 => ?_
            refine v_aload_n (i := 0) hc 1 rfl dX9_test_118 rfl ?_
            refine v_iload_n (i := 1) hc 2 rfl dX9_test_119 rfl ?_
            refine v_cI hc (m_V' (As := [.int p0]) (b := this) (rest := []) 1 hc hr (fun l D tys base => ct9_young l D tys base h117 this p0) (fun x hx => ob9_young hx) rfl s9_young w_1331 rfl ⟨Nat.le_of_ble_eq_true rfl, Nat.le_of_ble_eq_true rfl⟩ ⟨Nat.le_of_ble_eq_true rfl, Nat.le_of_ble_eq_true rfl⟩ (Nat.le_of_ble_eq_true rfl) dX9_test_120) fun x120 => ?_
            refine v_iload_n (i := 2) hc 3 rfl dX9_test_123 rfl ?_
            refine v_ishr hc dX9_test_124 ?_
            refine v_iconst (x := (1 : Int32)) hc dX9_test_125 zi_1 ?_
            refine v_iand hc dX9_test_126 ?_
            exact v_iret hc hq rfl rfl (Nat.le_of_ble_eq_true rfl) (Nat.le_of_ble_eq_true rfl) rfl dX9_test_127
          · refine v_iconst (x := (-1 : Int32)) hc dX9_test_61 zi_m1 ?_
            exact v_iret hc hq rfl rfl (Nat.le_of_ble_eq_true rfl) (Nat.le_of_ble_eq_true rfl) rfl dX9_test_62
theorem s9_test : YV yX9_test RX9 cX9_test 4 (some .int) 2 := ⟨w_1558, w_1556, w_1557, w_118, rfl, by decide +kernel, by decide +kernel, by decide +kernel⟩
def f9_isWeek (h : AH) (p0 : Int32) : Option (Bool) := (if p0 < 0 then some false else (if (520 : Int32) ≤ p0 then some false else some true))
set_option maxRecDepth 100000 in
theorem ct9_isWeek (l : Launch) (D : va_G) (tys : Tys) (base : Nat) (h : AH) (p0 : Int32) : Ct l D tys base yX9_isWeek cX9_isWeek 1 (some .boolean) 0 0 0 0 [.int p0] h (rB h) (f9_isWeek h p0) := by
  refine Ct.intro (own := RX9) (L := [(0, .int p0)]) rfl (by decide) rfl (Nat.le_of_ble_eq_true rfl) fun κ hc hr hq hi hL => ?_
  have hn : ∀ i, i < 1 → i < κ.2.2.2.2.1 := fun i q => hL ▸ q
  unfold f9_isWeek
  refine v_iload_n (i := 0) hc 0 rfl dX9_isWeek_0 rfl ?_
  refine v_if_lt hc 15 dX9_isWeek_1 rfl ?_ ?_
  · refine v_iconst (x := (0 : Int32)) hc dX9_isWeek_15 zi_0 ?_
    exact v_iret (v := bI false) hc hq rfl (nar_b false) (Nat.le_of_ble_eq_true rfl) (Nat.le_of_ble_eq_true rfl) rfl dX9_isWeek_16
  · refine v_iload_n (i := 0) hc 0 rfl dX9_isWeek_4 rfl ?_
    refine v_sipush (x := (520 : Int32)) hc dX9_isWeek_5 zs_520 ?_
    refine v_icmp_ge hc 15 dX9_isWeek_8 rfl ?_ ?_
    · refine v_iconst (x := (0 : Int32)) hc dX9_isWeek_15 zi_0 ?_
      exact v_iret (v := bI false) hc hq rfl (nar_b false) (Nat.le_of_ble_eq_true rfl) (Nat.le_of_ble_eq_true rfl) rfl dX9_isWeek_16
    · refine v_iconst (x := (1 : Int32)) hc dX9_isWeek_11 zi_1 ?_
      refine v_goto hc 16 dX9_isWeek_12 rfl ?_
      exact v_iret (v := bI true) hc hq rfl (nar_b true) (Nat.le_of_ble_eq_true rfl) (Nat.le_of_ble_eq_true rfl) rfl dX9_isWeek_16
theorem s9_isWeek : YS yX9_isWeek cX9_isWeek 1 (some .boolean) 1 := ⟨w_1565, w_1564, w_118, by decide +kernel, by decide +kernel, by decide +kernel⟩
def f9_keep (h : AH) (this : Nat) (p0 : Int32) (p1 : Int32) : Option (Int32 × AH) := (hObj 9 h this).bind fun _ => (f9_isPiece h this p0).bind fun x2 => (if x2 = true then (f9_isWeek h p1).bind fun x9 => (if x9 = true then (f9_pieceCell h this p0 (9 : Int32)).bind fun x21 => (fR 9 0 h this).bind fun x26 => (sI 0 h x26 (((1330 : Int32) + ((10 : Int32) * p0)) + (9 : Int32)) p1).bind fun h41 => some (x21, h41) else some ((-1 : Int32), h)) else some ((-1 : Int32), h))
theorem ob9_keep {h : AH} {this : Nat} {p0 : Int32} {p1 : Int32} {x : Int32 × AH} (e : f9_keep h this p0 p1 = some x) : ∃ fs, hObj 9 h this = some fs := by
  unfold f9_keep at e
  obtain ⟨fs, h1, -⟩ := bd e
  exact ⟨fs, h1⟩
set_option maxRecDepth 100000 in
theorem ct9_keep (l : Launch) (D : va_G) (tys : Tys) (base : Nat) (h : AH) (this : Nat) (p0 : Int32) (p1 : Int32) : Ct l D tys base yX9_keep cX9_keep 4 (some .int) 1 22 0 0 [.ref this, .int p0, .int p1] h (wI) (f9_keep h this p0 p1) := by
  refine Ct.intro (own := RX9) (L := [(0, .ref this), (1, .int p0), (2, .int p1)]) rfl (by decide) rfl (Nat.le_of_ble_eq_true rfl) fun κ hc hr hq hi hL => ?_
  have hn : ∀ i, i < 4 → i < κ.2.2.2.2.1 := fun i q => hL ▸ q
  unfold f9_keep
  refine v_obj ?_
  refine v_aload_n (i := 0) hc 0 rfl dX9_keep_0 rfl ?_
  refine v_iload_n (i := 1) hc 1 rfl dX9_keep_1 rfl ?_
  refine v_cB hc (m_V' (As := [.int p0]) (b := this) (rest := []) 1 hc hr (fun l D tys base => ct9_isPiece l D tys base h this p0) (fun x hx => ob9_isPiece hx) rfl s9_isPiece w_1286 rfl ⟨Nat.le_of_ble_eq_true rfl, Nat.le_of_ble_eq_true rfl⟩ ⟨Nat.le_of_ble_eq_true rfl, Nat.le_of_ble_eq_true rfl⟩ (Nat.le_of_ble_eq_true rfl) dX9_keep_2) fun x2 => ?_
  refine v_ifb_eq hc 15 dX9_keep_5 rfl ?_ ?_
  · refine v_iconst (x := (-1 : Int32)) hc dX9_keep_15 zi_m1 ?_
    exact v_iret hc hq rfl rfl (Nat.le_of_ble_eq_true rfl) (Nat.le_of_ble_eq_true rfl) rfl dX9_keep_16
  · refine v_iload_n (i := 2) hc 2 rfl dX9_keep_8 rfl ?_
    refine v_cB hc (m_S' (As := [.int p1]) (rest := []) 1 hc hr (fun l D tys base => ct9_isWeek l D tys base h p1) s9_isWeek w_1563 rfl ⟨Nat.le_of_ble_eq_true rfl, Nat.le_of_ble_eq_true rfl⟩ ⟨Nat.le_of_ble_eq_true rfl, Nat.le_of_ble_eq_true rfl⟩ (Nat.le_of_ble_eq_true rfl) dX9_keep_9) fun x9 => ?_
    refine v_ifb_ne hc 17 dX9_keep_12 rfl ?_ ?_
    · refine v_aload_n (i := 0) hc 0 rfl dX9_keep_17 rfl ?_
      refine v_iload_n (i := 1) hc 1 rfl dX9_keep_18 rfl ?_
      refine v_bipush (x := (9 : Int32)) hc dX9_keep_19 zb_9 ?_
      refine v_cI hc (m_V' (As := [.int p0, .int (9 : Int32)]) (b := this) (rest := []) 2 hc hr (fun l D tys base => ct9_pieceCell l D tys base h this p0 (9 : Int32)) (fun x hx => ob9_pieceCell hx) rfl s9_pieceCell w_1327 rfl ⟨Nat.le_of_ble_eq_true rfl, Nat.le_of_ble_eq_true rfl⟩ ⟨Nat.le_of_ble_eq_true rfl, Nat.le_of_ble_eq_true rfl⟩ (Nat.le_of_ble_eq_true rfl) dX9_keep_21) fun x21 => ?_
      refine v_istore_n (i := 3) (L' := [(3, .int x21), (0, .ref this), (1, .int p0), (2, .int p1)]) hc dX9_keep_24 rfl (hn 3 (Nat.le_of_ble_eq_true rfl)) rfl ?_
      refine v_aload_n (i := 0) hc 1 rfl dX9_keep_25 rfl ?_
      refine v_getV hc kX9 0 (by decide) w_1131 rfl dX9_keep_26 (gR rfl fun x26 => ?_)
      refine v_sipush (x := (1330 : Int32)) hc dX9_keep_29 zs_1330 ?_
      refine v_bipush (x := (10 : Int32)) hc dX9_keep_32 zb_10 ?_
      refine v_iload_n (i := 1) hc 2 rfl dX9_keep_34 rfl ?_
      refine v_imul hc dX9_keep_35 ?_
      refine v_iadd hc dX9_keep_36 ?_
      refine v_bipush (x := (9 : Int32)) hc dX9_keep_37 zb_9 ?_
      refine v_iadd hc dX9_keep_39 ?_
      refine v_iload_n (i := 2) hc 3 rfl dX9_keep_40 rfl ?_
      refine v_iast hc dX9_keep_41 fun h41 => ?_
      refine v_iload_n (i := 3) hc 0 rfl dX9_keep_42 rfl ?_
      exact v_iret hc hq rfl rfl (Nat.le_of_ble_eq_true rfl) (Nat.le_of_ble_eq_true rfl) rfl dX9_keep_43
    · refine v_iconst (x := (-1 : Int32)) hc dX9_keep_15 zi_m1 ?_
      exact v_iret hc hq rfl rfl (Nat.le_of_ble_eq_true rfl) (Nat.le_of_ble_eq_true rfl) rfl dX9_keep_16
theorem s9_keep : YV yX9_keep RX9 cX9_keep 4 (some .int) 2 := ⟨w_1562, w_1560, w_1561, w_118, rfl, by decide +kernel, by decide +kernel, by decide +kernel⟩
def f9_firstTest_11 (h : AH) (v0 : Nat) (v1 : Int32) (v3 : Int32) : Nat → Int32 → Int32 → Option (Int32)
  | 0, _, _ => none
  | n + 1, v2, v4 => (fR 9 0 h v0).bind fun x14 => (aI 0 h x14 (7 : Int32)).bind fun x19 => (if x19 ≤ v4 then some v2 else (some ((4430 : Int32) + ((3 : Int32) * v4))).bind fun x31 => (fR 9 0 h v0).bind fun x34 => (aI 0 h x34 x31).bind fun x39 => (if x39 = v1 then (fR 9 0 h v0).bind fun x46 => (aI 0 h x46 (x31 + (1 : Int32))).bind fun x53 => (if ((v3 >>> (x53 &&& 31)) &&& (1 : Int32)) = (1 : Int32) then (if v2 < 0 then (fR 9 0 h v0).bind fun x79 => (aI 0 h x79 (x31 + (2 : Int32))).bind fun x86 => (some (v4 + (1 : Int32))).bind fun x88 => f9_firstTest_11 h v0 v1 v3 n x86 x88 else (fR 9 0 h v0).bind fun x66 => (aI 0 h x66 (x31 + (2 : Int32))).bind fun x73 => (if v2 ≤ x73 then (some (v4 + (1 : Int32))).bind fun x88 => f9_firstTest_11 h v0 v1 v3 n v2 x88 else (fR 9 0 h v0).bind fun x79 => (aI 0 h x79 (x31 + (2 : Int32))).bind fun x86 => (some (v4 + (1 : Int32))).bind fun x88 => f9_firstTest_11 h v0 v1 v3 n x86 x88)) else (some (v4 + (1 : Int32))).bind fun x88 => f9_firstTest_11 h v0 v1 v3 n v2 x88) else (some (v4 + (1 : Int32))).bind fun x88 => f9_firstTest_11 h v0 v1 v3 n v2 x88))
set_option maxRecDepth 100000 in
theorem vl9_firstTest_11 {κ : Kx} (hc : CX κ RX9 cX9_firstTest) (hr : RX κ ({ frames := 2, cells := 0, slots := 0, locals := 46 } : Room)) (hq : QX κ (some .int) 0 0) (hL : 6 = κ.2.2.2.2.1)  (h : AH) (v0 : Nat) (v1 : Int32) (v3 : Int32) : ∀ n (v2 : Int32) (v4 : Int32), V κ (rI h) 0 0 11 [(0, .ref v0), (1, .int v1), (2, .int v2), (3, .int v3), (4, .int v4)] [] h (f9_firstTest_11 h v0 v1 v3 n v2 v4) := by
  have hn : ∀ i, i < 6 → i < κ.2.2.2.2.1 := fun i q => hL ▸ q
  intro n
  induction n with
  | zero => intros; exact v_none
  | succ n ih =>
    intro v2 v4
    rw [f9_firstTest_11.eq_2]
    refine v_iload (i := 4) hc 4 rfl dX9_firstTest_11 ?_
    refine v_aload_n (i := 0) hc 0 rfl dX9_firstTest_13 rfl ?_
    refine v_getV hc kX9 0 (by decide) w_1131 rfl dX9_firstTest_14 (gR rfl fun x14 => ?_)
    refine v_bipush (x := (7 : Int32)) hc dX9_firstTest_17 zb_7 ?_
    refine v_iald hc dX9_firstTest_19 fun x19 => ?_
    refine v_icmp_ge hc 94 dX9_firstTest_20 rfl ?_ ?_
    · refine v_iload_n (i := 2) hc 2 rfl dX9_firstTest_94 rfl ?_
      exact v_iret hc hq rfl rfl (Nat.le_of_ble_eq_true rfl) (Nat.le_of_ble_eq_true rfl) rfl dX9_firstTest_95
    · refine v_sipush (x := (4430 : Int32)) hc dX9_firstTest_23 zs_4430 ?_
      refine v_iconst (x := (3 : Int32)) hc dX9_firstTest_26 zi_3 ?_
      refine v_iload (i := 4) hc 4 rfl dX9_firstTest_27 ?_
      refine v_imul hc dX9_firstTest_29 ?_
      refine v_iadd hc dX9_firstTest_30 ?_
      refine v_nmI fun x31 => ?_
      refine v_istore (i := 5) (L' := [(5, .int x31), (0, .ref v0), (1, .int v1), (2, .int v2), (3, .int v3), (4, .int v4)]) hc dX9_firstTest_31 (hn 5 (Nat.le_of_ble_eq_true rfl)) rfl ?_
      refine v_aload_n (i := 0) hc 1 rfl dX9_firstTest_33 rfl ?_
      refine v_getV hc kX9 0 (by decide) w_1131 rfl dX9_firstTest_34 (gR rfl fun x34 => ?_)
      refine v_iload (i := 5) hc 0 rfl dX9_firstTest_37 ?_
      refine v_iald hc dX9_firstTest_39 fun x39 => ?_
      refine v_iload_n (i := 1) hc 2 rfl dX9_firstTest_40 rfl ?_
      refine v_icmp_ne hc 88 dX9_firstTest_41 rfl ?_ ?_
      · refine v_iincN (i := 4) (y := (1 : Int32)) (L' := fun z => [(4, .int z), (5, .int x31), (0, .ref v0), (1, .int v1), (2, .int v2), (3, .int v3)]) hc 5 rfl dX9_firstTest_88 zi_1 (hn 4 (Nat.le_of_ble_eq_true rfl)) (fun _ => rfl) fun x88 => ?_
        refine v_goto hc 11 dX9_firstTest_91 rfl ?_
        refine v_sub (L' := [(0, .ref v0), (1, .int v1), (2, .int v2), (3, .int v3), (4, .int x88)]) [2, 3, 4, 5, 0] rfl ?_
        exact ih v2 x88
      · refine v_iload_n (i := 3) hc 4 rfl dX9_firstTest_44 rfl ?_
        refine v_aload_n (i := 0) hc 1 rfl dX9_firstTest_45 rfl ?_
        refine v_getV hc kX9 0 (by decide) w_1131 rfl dX9_firstTest_46 (gR rfl fun x46 => ?_)
        refine v_iload (i := 5) hc 0 rfl dX9_firstTest_49 ?_
        refine v_iconst (x := (1 : Int32)) hc dX9_firstTest_51 zi_1 ?_
        refine v_iadd hc dX9_firstTest_52 ?_
        refine v_iald hc dX9_firstTest_53 fun x53 => ?_
        refine v_ishr hc dX9_firstTest_54 ?_
        refine v_iconst (x := (1 : Int32)) hc dX9_firstTest_55 zi_1 ?_
        refine v_iand hc dX9_firstTest_56 ?_
        refine v_iconst (x := (1 : Int32)) hc dX9_firstTest_57 zi_1 ?_
        refine v_icmp_ne hc 88 dX9_firstTest_58 rfl ?_ ?_
        · refine v_iincN (i := 4) (y := (1 : Int32)) (L' := fun z => [(4, .int z), (5, .int x31), (0, .ref v0), (1, .int v1), (2, .int v2), (3, .int v3)]) hc 5 rfl dX9_firstTest_88 zi_1 (hn 4 (Nat.le_of_ble_eq_true rfl)) (fun _ => rfl) fun x88 => ?_
          refine v_goto hc 11 dX9_firstTest_91 rfl ?_
          refine v_sub (L' := [(0, .ref v0), (1, .int v1), (2, .int v2), (3, .int v3), (4, .int x88)]) [2, 3, 4, 5, 0] rfl ?_
          exact ih v2 x88
        · refine v_iload_n (i := 2) hc 3 rfl dX9_firstTest_61 rfl ?_
          refine v_if_lt hc 78 dX9_firstTest_62 rfl ?_ ?_
          · refine v_aload_n (i := 0) hc 1 rfl dX9_firstTest_78 rfl ?_
            refine v_getV hc kX9 0 (by decide) w_1131 rfl dX9_firstTest_79 (gR rfl fun x79 => ?_)
            refine v_iload (i := 5) hc 0 rfl dX9_firstTest_82 ?_
            refine v_iconst (x := (2 : Int32)) hc dX9_firstTest_84 zi_2 ?_
            refine v_iadd hc dX9_firstTest_85 ?_
            refine v_iald hc dX9_firstTest_86 fun x86 => ?_
            refine v_istore_n (i := 2) (L' := [(2, .int x86), (5, .int x31), (0, .ref v0), (1, .int v1), (3, .int v3), (4, .int v4)]) hc dX9_firstTest_87 rfl (hn 2 (Nat.le_of_ble_eq_true rfl)) rfl ?_
            refine v_iincN (i := 4) (y := (1 : Int32)) (L' := fun z => [(4, .int z), (2, .int x86), (5, .int x31), (0, .ref v0), (1, .int v1), (3, .int v3)]) hc 5 rfl dX9_firstTest_88 zi_1 (hn 4 (Nat.le_of_ble_eq_true rfl)) (fun _ => rfl) fun x88 => ?_
            refine v_goto hc 11 dX9_firstTest_91 rfl ?_
            refine v_sub (L' := [(0, .ref v0), (1, .int v1), (2, .int x86), (3, .int v3), (4, .int x88)]) [3, 4, 1, 5, 0] rfl ?_
            exact ih x86 x88
          · refine v_aload_n (i := 0) hc 1 rfl dX9_firstTest_65 rfl ?_
            refine v_getV hc kX9 0 (by decide) w_1131 rfl dX9_firstTest_66 (gR rfl fun x66 => ?_)
            refine v_iload (i := 5) hc 0 rfl dX9_firstTest_69 ?_
            refine v_iconst (x := (2 : Int32)) hc dX9_firstTest_71 zi_2 ?_
            refine v_iadd hc dX9_firstTest_72 ?_
            refine v_iald hc dX9_firstTest_73 fun x73 => ?_
            refine v_iload_n (i := 2) hc 3 rfl dX9_firstTest_74 rfl ?_
            refine v_icmp_ge hc 88 dX9_firstTest_75 rfl ?_ ?_
            · refine v_iincN (i := 4) (y := (1 : Int32)) (L' := fun z => [(4, .int z), (5, .int x31), (0, .ref v0), (1, .int v1), (2, .int v2), (3, .int v3)]) hc 5 rfl dX9_firstTest_88 zi_1 (hn 4 (Nat.le_of_ble_eq_true rfl)) (fun _ => rfl) fun x88 => ?_
              refine v_goto hc 11 dX9_firstTest_91 rfl ?_
              refine v_sub (L' := [(0, .ref v0), (1, .int v1), (2, .int v2), (3, .int v3), (4, .int x88)]) [2, 3, 4, 5, 0] rfl ?_
              exact ih v2 x88
            · refine v_aload_n (i := 0) hc 1 rfl dX9_firstTest_78 rfl ?_
              refine v_getV hc kX9 0 (by decide) w_1131 rfl dX9_firstTest_79 (gR rfl fun x79 => ?_)
              refine v_iload (i := 5) hc 0 rfl dX9_firstTest_82 ?_
              refine v_iconst (x := (2 : Int32)) hc dX9_firstTest_84 zi_2 ?_
              refine v_iadd hc dX9_firstTest_85 ?_
              refine v_iald hc dX9_firstTest_86 fun x86 => ?_
              refine v_istore_n (i := 2) (L' := [(2, .int x86), (5, .int x31), (0, .ref v0), (1, .int v1), (3, .int v3), (4, .int v4)]) hc dX9_firstTest_87 rfl (hn 2 (Nat.le_of_ble_eq_true rfl)) rfl ?_
              refine v_iincN (i := 4) (y := (1 : Int32)) (L' := fun z => [(4, .int z), (2, .int x86), (5, .int x31), (0, .ref v0), (1, .int v1), (3, .int v3)]) hc 5 rfl dX9_firstTest_88 zi_1 (hn 4 (Nat.le_of_ble_eq_true rfl)) (fun _ => rfl) fun x88 => ?_
              refine v_goto hc 11 dX9_firstTest_91 rfl ?_
              refine v_sub (L' := [(0, .ref v0), (1, .int v1), (2, .int x86), (3, .int v3), (4, .int x88)]) [3, 4, 1, 5, 0] rfl ?_
              exact ih x86 x88
def f9_firstTest (h : AH) (this : Nat) (p0 : Int32) : Option (Int32) := (hObj 9 h this).bind fun _ => (f9_young h this p0).bind fun x4 => f9_firstTest_11 h this p0 x4 FU (-1 : Int32) (0 : Int32)
theorem ob9_firstTest {h : AH} {this : Nat} {p0 : Int32} {x : Int32} (e : f9_firstTest h this p0 = some x) : ∃ fs, hObj 9 h this = some fs := by
  unfold f9_firstTest at e
  obtain ⟨fs, h1, -⟩ := bd e
  exact ⟨fs, h1⟩
set_option maxRecDepth 100000 in
theorem ct9_firstTest (l : Launch) (D : va_G) (tys : Tys) (base : Nat) (h : AH) (this : Nat) (p0 : Int32) : Ct l D tys base yX9_firstTest cX9_firstTest 6 (some .int) 2 46 0 0 [.ref this, .int p0] h (rI h) (f9_firstTest h this p0) := by
  refine Ct.intro (own := RX9) (L := [(0, .ref this), (1, .int p0)]) rfl (by decide) rfl (Nat.le_of_ble_eq_true rfl) fun κ hc hr hq hi hL => ?_
  have hn : ∀ i, i < 6 → i < κ.2.2.2.2.1 := fun i q => hL ▸ q
  unfold f9_firstTest
  refine v_obj ?_
  refine v_iconst (x := (-1 : Int32)) hc dX9_firstTest_0 zi_m1 ?_
  refine v_istore_n (i := 2) (L' := [(2, .int (-1 : Int32)), (0, .ref this), (1, .int p0)]) hc dX9_firstTest_1 rfl (hn 2 (Nat.le_of_ble_eq_true rfl)) rfl ?_
  refine v_aload_n (i := 0) hc 1 rfl dX9_firstTest_2 rfl ?_
  refine v_iload_n (i := 1) hc 2 rfl dX9_firstTest_3 rfl ?_
  refine v_cI hc (m_V' (As := [.int p0]) (b := this) (rest := []) 1 hc hr (fun l D tys base => ct9_young l D tys base h this p0) (fun x hx => ob9_young hx) rfl s9_young w_1331 rfl ⟨Nat.le_of_ble_eq_true rfl, Nat.le_of_ble_eq_true rfl⟩ ⟨Nat.le_of_ble_eq_true rfl, Nat.le_of_ble_eq_true rfl⟩ (Nat.le_of_ble_eq_true rfl) dX9_firstTest_4) fun x4 => ?_
  refine v_istore_n (i := 3) (L' := [(3, .int x4), (2, .int (-1 : Int32)), (0, .ref this), (1, .int p0)]) hc dX9_firstTest_7 rfl (hn 3 (Nat.le_of_ble_eq_true rfl)) rfl ?_
  refine v_iconst (x := (0 : Int32)) hc dX9_firstTest_8 zi_0 ?_
  refine v_istore (i := 4) (L' := [(4, .int (0 : Int32)), (3, .int x4), (2, .int (-1 : Int32)), (0, .ref this), (1, .int p0)]) hc dX9_firstTest_9 (hn 4 (Nat.le_of_ble_eq_true rfl)) rfl ?_
  refine v_sub (L' := [(0, .ref this), (1, .int p0), (2, .int (-1 : Int32)), (3, .int x4), (4, .int (0 : Int32))]) [3, 4, 2, 1, 0] rfl ?_
  exact vl9_firstTest_11 hc hr hq hL h this p0 x4 FU (-1 : Int32) (0 : Int32)
theorem s9_firstTest : YV yX9_firstTest RX9 cX9_firstTest 6 (some .int) 1 := ⟨w_1573, w_1572, w_98, w_118, rfl, by decide +kernel, by decide +kernel, by decide +kernel⟩
def f9_stand_40 (h : AH) (v0 : Nat) (v1 : Int32) (v2 : Int32) : Nat → Int32 → Int32 → Option (Int32)
  | 0, _, _ => none
  | n + 1, v4, v5 => (fR 9 0 h v0).bind fun x43 => (aI 0 h x43 (6 : Int32)).bind fun x48 => (if x48 ≤ v5 then some v4 else (some ((3430 : Int32) + ((5 : Int32) * v5))).bind fun x60 => (fR 9 0 h v0).bind fun x63 => (aI 0 h x63 (x60 + (1 : Int32))).bind fun x70 => (if x70 = v1 then (fR 9 0 h v0).bind fun x76 => (aI 0 h x76 (x60 + (3 : Int32))).bind fun x83 => (if x83 = (1 : Int32) then (some (v5 + (1 : Int32))).bind fun x133 => f9_stand_40 h v0 v1 v2 n v4 x133 else (fR 9 0 h v0).bind fun x89 => (aI 0 h x89 (x60 + (4 : Int32))).bind fun x96 => (if x96 ≤ v2 then (fR 9 0 h v0).bind fun x106 => (aI 0 h x106 (x60 + (2 : Int32))).bind fun x113 => (some ((1 : Int32) + x113)).bind fun x115 => (if x115 ≤ v4 then (some (v5 + (1 : Int32))).bind fun x133 => f9_stand_40 h v0 v1 v2 n v4 x133 else (some (v5 + (1 : Int32))).bind fun x133 => f9_stand_40 h v0 v1 v2 n x115 x133) else (some (v5 + (1 : Int32))).bind fun x133 => f9_stand_40 h v0 v1 v2 n v4 x133)) else (some (v5 + (1 : Int32))).bind fun x133 => f9_stand_40 h v0 v1 v2 n v4 x133))
set_option maxRecDepth 100000 in
theorem vl9_stand_40 {κ : Kx} (hc : CX κ RX9 cX9_stand) (hr : RX κ ({ frames := 3, cells := 0, slots := 0, locals := 71 } : Room)) (hq : QX κ (some .int) 0 0) (hL : 8 = κ.2.2.2.2.1)  (h : AH) (v0 : Nat) (v1 : Int32) (v2 : Int32) : ∀ n (v4 : Int32) (v5 : Int32), V κ (rI h) 0 0 40 [(0, .ref v0), (1, .int v1), (2, .int v2), (4, .int v4), (5, .int v5)] [] h (f9_stand_40 h v0 v1 v2 n v4 v5) := by
  have hn : ∀ i, i < 8 → i < κ.2.2.2.2.1 := fun i q => hL ▸ q
  intro n
  induction n with
  | zero => intros; exact v_none
  | succ n ih =>
    intro v4 v5
    rw [f9_stand_40.eq_2]
    refine v_iload (i := 5) hc 4 rfl dX9_stand_40 ?_
    refine v_aload_n (i := 0) hc 0 rfl dX9_stand_42 rfl ?_
    refine v_getV hc kX9 0 (by decide) w_1131 rfl dX9_stand_43 (gR rfl fun x43 => ?_)
    refine v_bipush (x := (6 : Int32)) hc dX9_stand_46 zb_6 ?_
    refine v_iald hc dX9_stand_48 fun x48 => ?_
    refine v_icmp_ge hc 139 dX9_stand_49 rfl ?_ ?_
    · refine v_iload (i := 4) hc 3 rfl dX9_stand_139 ?_
      exact v_iret hc hq rfl rfl (Nat.le_of_ble_eq_true rfl) (Nat.le_of_ble_eq_true rfl) rfl dX9_stand_141
    · refine v_sipush (x := (3430 : Int32)) hc dX9_stand_52 zs_3430 ?_
      refine v_iconst (x := (5 : Int32)) hc dX9_stand_55 zi_5 ?_
      refine v_iload (i := 5) hc 4 rfl dX9_stand_56 ?_
      refine v_imul hc dX9_stand_58 ?_
      refine v_iadd hc dX9_stand_59 ?_
      refine v_nmI fun x60 => ?_
      refine v_istore (i := 6) (L' := [(6, .int x60), (0, .ref v0), (1, .int v1), (2, .int v2), (4, .int v4), (5, .int v5)]) hc dX9_stand_60 (hn 6 (Nat.le_of_ble_eq_true rfl)) rfl ?_
      refine v_aload_n (i := 0) hc 1 rfl dX9_stand_62 rfl ?_
      refine v_getV hc kX9 0 (by decide) w_1131 rfl dX9_stand_63 (gR rfl fun x63 => ?_)
      refine v_iload (i := 6) hc 0 rfl dX9_stand_66 ?_
      refine v_iconst (x := (1 : Int32)) hc dX9_stand_68 zi_1 ?_
      refine v_iadd hc dX9_stand_69 ?_
      refine v_iald hc dX9_stand_70 fun x70 => ?_
      refine v_iload_n (i := 1) hc 2 rfl dX9_stand_71 rfl ?_
      refine v_icmp_ne hc 133 dX9_stand_72 rfl ?_ ?_
      · refine v_iincN (i := 5) (y := (1 : Int32)) (L' := fun z => [(5, .int z), (6, .int x60), (0, .ref v0), (1, .int v1), (2, .int v2), (4, .int v4)]) hc 5 rfl dX9_stand_133 zi_1 (hn 5 (Nat.le_of_ble_eq_true rfl)) (fun _ => rfl) fun x133 => ?_
        refine v_goto hc 40 dX9_stand_136 rfl ?_
        refine v_sub (L' := [(0, .ref v0), (1, .int v1), (2, .int v2), (4, .int v4), (5, .int x133)]) [2, 3, 4, 5, 0] rfl ?_
        exact ih v4 x133
      · refine v_aload_n (i := 0) hc 1 rfl dX9_stand_75 rfl ?_
        refine v_getV hc kX9 0 (by decide) w_1131 rfl dX9_stand_76 (gR rfl fun x76 => ?_)
        refine v_iload (i := 6) hc 0 rfl dX9_stand_79 ?_
        refine v_iconst (x := (3 : Int32)) hc dX9_stand_81 zi_3 ?_
        refine v_iadd hc dX9_stand_82 ?_
        refine v_iald hc dX9_stand_83 fun x83 => ?_
        refine v_iconst (x := (1 : Int32)) hc dX9_stand_84 zi_1 ?_
        refine v_icmp_eq hc 133 dX9_stand_85 rfl ?_ ?_
        · refine v_iincN (i := 5) (y := (1 : Int32)) (L' := fun z => [(5, .int z), (6, .int x60), (0, .ref v0), (1, .int v1), (2, .int v2), (4, .int v4)]) hc 5 rfl dX9_stand_133 zi_1 (hn 5 (Nat.le_of_ble_eq_true rfl)) (fun _ => rfl) fun x133 => ?_
          refine v_goto hc 40 dX9_stand_136 rfl ?_
          refine v_sub (L' := [(0, .ref v0), (1, .int v1), (2, .int v2), (4, .int v4), (5, .int x133)]) [2, 3, 4, 5, 0] rfl ?_
          exact ih v4 x133
        · refine v_aload_n (i := 0) hc 1 rfl dX9_stand_88 rfl ?_
          refine v_getV hc kX9 0 (by decide) w_1131 rfl dX9_stand_89 (gR rfl fun x89 => ?_)
          refine v_iload (i := 6) hc 0 rfl dX9_stand_92 ?_
          refine v_iconst (x := (4 : Int32)) hc dX9_stand_94 zi_4 ?_
          refine v_iadd hc dX9_stand_95 ?_
          refine v_iald hc dX9_stand_96 fun x96 => ?_
          refine v_iload_n (i := 2) hc 3 rfl dX9_stand_97 rfl ?_
          refine v_icmp_le hc 104 dX9_stand_98 rfl ?_ ?_
          · refine v_iconst (x := (1 : Int32)) hc dX9_stand_104 zi_1 ?_
            refine v_aload_n (i := 0) hc 1 rfl dX9_stand_105 rfl ?_
            refine v_getV hc kX9 0 (by decide) w_1131 rfl dX9_stand_106 (gR rfl fun x106 => ?_)
            refine v_iload (i := 6) hc 0 rfl dX9_stand_109 ?_
            refine v_iconst (x := (2 : Int32)) hc dX9_stand_111 zi_2 ?_
            refine v_iadd hc dX9_stand_112 ?_
            refine v_iald hc dX9_stand_113 fun x113 => ?_
            refine v_iadd hc dX9_stand_114 ?_
            refine v_nmI fun x115 => ?_
            refine v_istore (i := 7) (L' := [(7, .int x115), (6, .int x60), (0, .ref v0), (1, .int v1), (2, .int v2), (4, .int v4), (5, .int v5)]) hc dX9_stand_115 (hn 7 (Nat.le_of_ble_eq_true rfl)) rfl ?_
            refine v_iload (i := 7) hc 0 rfl dX9_stand_117 ?_
            refine v_iload (i := 4) hc 5 rfl dX9_stand_119 ?_
            refine v_icmp_le hc 129 dX9_stand_121 rfl ?_ ?_
            · refine v_iload (i := 4) hc 5 rfl dX9_stand_129 ?_
              refine v_istore (i := 4) (L' := [(4, .int v4), (7, .int x115), (6, .int x60), (0, .ref v0), (1, .int v1), (2, .int v2), (5, .int v5)]) hc dX9_stand_131 (hn 4 (Nat.le_of_ble_eq_true rfl)) rfl ?_
              refine v_iincN (i := 5) (y := (1 : Int32)) (L' := fun z => [(5, .int z), (4, .int v4), (7, .int x115), (6, .int x60), (0, .ref v0), (1, .int v1), (2, .int v2)]) hc 6 rfl dX9_stand_133 zi_1 (hn 5 (Nat.le_of_ble_eq_true rfl)) (fun _ => rfl) fun x133 => ?_
              refine v_goto hc 40 dX9_stand_136 rfl ?_
              refine v_sub (L' := [(0, .ref v0), (1, .int v1), (2, .int v2), (4, .int v4), (5, .int x133)]) [4, 5, 6, 1, 0] rfl ?_
              exact ih v4 x133
            · refine v_iload (i := 7) hc 0 rfl dX9_stand_124 ?_
              refine v_goto hc 131 dX9_stand_126 rfl ?_
              refine v_istore (i := 4) (L' := [(4, .int x115), (7, .int x115), (6, .int x60), (0, .ref v0), (1, .int v1), (2, .int v2), (5, .int v5)]) hc dX9_stand_131 (hn 4 (Nat.le_of_ble_eq_true rfl)) rfl ?_
              refine v_iincN (i := 5) (y := (1 : Int32)) (L' := fun z => [(5, .int z), (4, .int x115), (7, .int x115), (6, .int x60), (0, .ref v0), (1, .int v1), (2, .int v2)]) hc 6 rfl dX9_stand_133 zi_1 (hn 5 (Nat.le_of_ble_eq_true rfl)) (fun _ => rfl) fun x133 => ?_
              refine v_goto hc 40 dX9_stand_136 rfl ?_
              refine v_sub (L' := [(0, .ref v0), (1, .int v1), (2, .int v2), (4, .int x115), (5, .int x133)]) [4, 5, 6, 1, 0] rfl ?_
              exact ih x115 x133
          · refine v_goto hc 133 dX9_stand_101 rfl ?_
            refine v_iincN (i := 5) (y := (1 : Int32)) (L' := fun z => [(5, .int z), (6, .int x60), (0, .ref v0), (1, .int v1), (2, .int v2), (4, .int v4)]) hc 5 rfl dX9_stand_133 zi_1 (hn 5 (Nat.le_of_ble_eq_true rfl)) (fun _ => rfl) fun x133 => ?_
            refine v_goto hc 40 dX9_stand_136 rfl ?_
            refine v_sub (L' := [(0, .ref v0), (1, .int v1), (2, .int v2), (4, .int v4), (5, .int x133)]) [2, 3, 4, 5, 0] rfl ?_
            exact ih v4 x133
def f9_stand (h : AH) (this : Nat) (p0 : Int32) (p1 : Int32) : Option (Int32) := (hObj 9 h this).bind fun _ => (f9_isPiece h this p0).bind fun x2 => (if x2 = true then (f9_isWeek h p1).bind fun x9 => (if x9 = true then (f9_firstTest h this p0).bind fun x19 => (if x19 < 0 then f9_stand_40 h this p0 p1 FU (0 : Int32) (0 : Int32) else (if p1 < x19 then f9_stand_40 h this p0 p1 FU (0 : Int32) (0 : Int32) else some (3 : Int32))) else some (-1 : Int32)) else some (-1 : Int32))
theorem ob9_stand {h : AH} {this : Nat} {p0 : Int32} {p1 : Int32} {x : Int32} (e : f9_stand h this p0 p1 = some x) : ∃ fs, hObj 9 h this = some fs := by
  unfold f9_stand at e
  obtain ⟨fs, h1, -⟩ := bd e
  exact ⟨fs, h1⟩
set_option maxRecDepth 100000 in
theorem ct9_stand (l : Launch) (D : va_G) (tys : Tys) (base : Nat) (h : AH) (this : Nat) (p0 : Int32) (p1 : Int32) : Ct l D tys base yX9_stand cX9_stand 8 (some .int) 3 71 0 0 [.ref this, .int p0, .int p1] h (rI h) (f9_stand h this p0 p1) := by
  refine Ct.intro (own := RX9) (L := [(0, .ref this), (1, .int p0), (2, .int p1)]) rfl (by decide) rfl (Nat.le_of_ble_eq_true rfl) fun κ hc hr hq hi hL => ?_
  have hn : ∀ i, i < 8 → i < κ.2.2.2.2.1 := fun i q => hL ▸ q
  unfold f9_stand
  refine v_obj ?_
  refine v_aload_n (i := 0) hc 0 rfl dX9_stand_0 rfl ?_
  refine v_iload_n (i := 1) hc 1 rfl dX9_stand_1 rfl ?_
  refine v_cB hc (m_V' (As := [.int p0]) (b := this) (rest := []) 1 hc hr (fun l D tys base => ct9_isPiece l D tys base h this p0) (fun x hx => ob9_isPiece hx) rfl s9_isPiece w_1286 rfl ⟨Nat.le_of_ble_eq_true rfl, Nat.le_of_ble_eq_true rfl⟩ ⟨Nat.le_of_ble_eq_true rfl, Nat.le_of_ble_eq_true rfl⟩ (Nat.le_of_ble_eq_true rfl) dX9_stand_2) fun x2 => ?_
  refine v_ifb_eq hc 15 dX9_stand_5 rfl ?_ ?_
  · refine v_iconst (x := (-1 : Int32)) hc dX9_stand_15 zi_m1 ?_
    exact v_iret hc hq rfl rfl (Nat.le_of_ble_eq_true rfl) (Nat.le_of_ble_eq_true rfl) rfl dX9_stand_16
  · refine v_iload_n (i := 2) hc 2 rfl dX9_stand_8 rfl ?_
    refine v_cB hc (m_S' (As := [.int p1]) (rest := []) 1 hc hr (fun l D tys base => ct9_isWeek l D tys base h p1) s9_isWeek w_1563 rfl ⟨Nat.le_of_ble_eq_true rfl, Nat.le_of_ble_eq_true rfl⟩ ⟨Nat.le_of_ble_eq_true rfl, Nat.le_of_ble_eq_true rfl⟩ (Nat.le_of_ble_eq_true rfl) dX9_stand_9) fun x9 => ?_
    refine v_ifb_ne hc 17 dX9_stand_12 rfl ?_ ?_
    · refine v_aload_n (i := 0) hc 0 rfl dX9_stand_17 rfl ?_
      refine v_iload_n (i := 1) hc 1 rfl dX9_stand_18 rfl ?_
      refine v_cI hc (m_V' (As := [.int p0]) (b := this) (rest := []) 1 hc hr (fun l D tys base => ct9_firstTest l D tys base h this p0) (fun x hx => ob9_firstTest hx) rfl s9_firstTest w_1570 rfl ⟨Nat.le_of_ble_eq_true rfl, Nat.le_of_ble_eq_true rfl⟩ ⟨Nat.le_of_ble_eq_true rfl, Nat.le_of_ble_eq_true rfl⟩ (Nat.le_of_ble_eq_true rfl) dX9_stand_19) fun x19 => ?_
      refine v_istore_n (i := 3) (L' := [(3, .int x19), (0, .ref this), (1, .int p0), (2, .int p1)]) hc dX9_stand_22 rfl (hn 3 (Nat.le_of_ble_eq_true rfl)) rfl ?_
      refine v_iload_n (i := 3) hc 0 rfl dX9_stand_23 rfl ?_
      refine v_if_lt hc 34 dX9_stand_24 rfl ?_ ?_
      · refine v_iconst (x := (0 : Int32)) hc dX9_stand_34 zi_0 ?_
        refine v_istore (i := 4) (L' := [(4, .int (0 : Int32)), (3, .int x19), (0, .ref this), (1, .int p0), (2, .int p1)]) hc dX9_stand_35 (hn 4 (Nat.le_of_ble_eq_true rfl)) rfl ?_
        refine v_iconst (x := (0 : Int32)) hc dX9_stand_37 zi_0 ?_
        refine v_istore (i := 5) (L' := [(5, .int (0 : Int32)), (4, .int (0 : Int32)), (3, .int x19), (0, .ref this), (1, .int p0), (2, .int p1)]) hc dX9_stand_38 (hn 5 (Nat.le_of_ble_eq_true rfl)) rfl ?_
        refine v_sub (L' := [(0, .ref this), (1, .int p0), (2, .int p1), (4, .int (0 : Int32)), (5, .int (0 : Int32))]) [3, 4, 5, 1, 0] rfl ?_
        exact vl9_stand_40 hc hr hq hL h this p0 p1 FU (0 : Int32) (0 : Int32)
      · refine v_iload_n (i := 3) hc 0 rfl dX9_stand_27 rfl ?_
        refine v_iload_n (i := 2) hc 3 rfl dX9_stand_28 rfl ?_
        refine v_icmp_gt hc 34 dX9_stand_29 rfl ?_ ?_
        · refine v_iconst (x := (0 : Int32)) hc dX9_stand_34 zi_0 ?_
          refine v_istore (i := 4) (L' := [(4, .int (0 : Int32)), (3, .int x19), (0, .ref this), (1, .int p0), (2, .int p1)]) hc dX9_stand_35 (hn 4 (Nat.le_of_ble_eq_true rfl)) rfl ?_
          refine v_iconst (x := (0 : Int32)) hc dX9_stand_37 zi_0 ?_
          refine v_istore (i := 5) (L' := [(5, .int (0 : Int32)), (4, .int (0 : Int32)), (3, .int x19), (0, .ref this), (1, .int p0), (2, .int p1)]) hc dX9_stand_38 (hn 5 (Nat.le_of_ble_eq_true rfl)) rfl ?_
          refine v_sub (L' := [(0, .ref this), (1, .int p0), (2, .int p1), (4, .int (0 : Int32)), (5, .int (0 : Int32))]) [3, 4, 5, 1, 0] rfl ?_
          exact vl9_stand_40 hc hr hq hL h this p0 p1 FU (0 : Int32) (0 : Int32)
        · refine v_iconst (x := (3 : Int32)) hc dX9_stand_32 zi_3 ?_
          exact v_iret hc hq rfl rfl (Nat.le_of_ble_eq_true rfl) (Nat.le_of_ble_eq_true rfl) rfl dX9_stand_33
    · refine v_iconst (x := (-1 : Int32)) hc dX9_stand_15 zi_m1 ?_
      exact v_iret hc hq rfl rfl (Nat.le_of_ble_eq_true rfl) (Nat.le_of_ble_eq_true rfl) rfl dX9_stand_16
theorem s9_stand : YV yX9_stand RX9 cX9_stand 8 (some .int) 2 := ⟨w_1569, w_1567, w_1568, w_118, rfl, by decide +kernel, by decide +kernel, by decide +kernel⟩
def f9_cost (h : AH) (this : Nat) (p0 : Int32) : Option (Int32) := (hObj 9 h this).bind fun _ => (f9_isPiece h this p0).bind fun x2 => (if x2 = true then (f9_young h this p0).bind fun x12 => (if x12 = 0 then some (0 : Int32) else (f9_firstTest h this p0).bind fun x22 => (if 0 ≤ x22 then (f9_pieceCell h this p0 (8 : Int32)).bind fun x44 => some (x22 - x44) else (fR 9 0 h this).bind fun x31 => (aI 0 h x31 (0 : Int32)).bind fun x35 => (f9_pieceCell h this p0 (8 : Int32)).bind fun x44 => some (x35 - x44))) else some (-1 : Int32))
theorem ob9_cost {h : AH} {this : Nat} {p0 : Int32} {x : Int32} (e : f9_cost h this p0 = some x) : ∃ fs, hObj 9 h this = some fs := by
  unfold f9_cost at e
  obtain ⟨fs, h1, -⟩ := bd e
  exact ⟨fs, h1⟩
set_option maxRecDepth 100000 in
theorem ct9_cost (l : Launch) (D : va_G) (tys : Tys) (base : Nat) (h : AH) (this : Nat) (p0 : Int32) : Ct l D tys base yX9_cost cX9_cost 3 (some .int) 3 71 0 0 [.ref this, .int p0] h (rI h) (f9_cost h this p0) := by
  refine Ct.intro (own := RX9) (L := [(0, .ref this), (1, .int p0)]) rfl (by decide) rfl (Nat.le_of_ble_eq_true rfl) fun κ hc hr hq hi hL => ?_
  have hn : ∀ i, i < 3 → i < κ.2.2.2.2.1 := fun i q => hL ▸ q
  unfold f9_cost
  refine v_obj ?_
  refine v_aload_n (i := 0) hc 0 rfl dX9_cost_0 rfl ?_
  refine v_iload_n (i := 1) hc 1 rfl dX9_cost_1 rfl ?_
  refine v_cB hc (m_V' (As := [.int p0]) (b := this) (rest := []) 1 hc hr (fun l D tys base => ct9_isPiece l D tys base h this p0) (fun x hx => ob9_isPiece hx) rfl s9_isPiece w_1286 rfl ⟨Nat.le_of_ble_eq_true rfl, Nat.le_of_ble_eq_true rfl⟩ ⟨Nat.le_of_ble_eq_true rfl, Nat.le_of_ble_eq_true rfl⟩ (Nat.le_of_ble_eq_true rfl) dX9_cost_2) fun x2 => ?_
  refine v_ifb_ne hc 10 dX9_cost_5 rfl ?_ ?_
  · refine v_aload_n (i := 0) hc 0 rfl dX9_cost_10 rfl ?_
    refine v_iload_n (i := 1) hc 1 rfl dX9_cost_11 rfl ?_
    refine v_cI hc (m_V' (As := [.int p0]) (b := this) (rest := []) 1 hc hr (fun l D tys base => ct9_young l D tys base h this p0) (fun x hx => ob9_young hx) rfl s9_young w_1331 rfl ⟨Nat.le_of_ble_eq_true rfl, Nat.le_of_ble_eq_true rfl⟩ ⟨Nat.le_of_ble_eq_true rfl, Nat.le_of_ble_eq_true rfl⟩ (Nat.le_of_ble_eq_true rfl) dX9_cost_12) fun x12 => ?_
    refine v_if_ne hc 20 dX9_cost_15 rfl ?_ ?_
    · refine v_aload_n (i := 0) hc 0 rfl dX9_cost_20 rfl ?_
      refine v_iload_n (i := 1) hc 1 rfl dX9_cost_21 rfl ?_
      refine v_cI hc (m_V' (As := [.int p0]) (b := this) (rest := []) 1 hc hr (fun l D tys base => ct9_firstTest l D tys base h this p0) (fun x hx => ob9_firstTest hx) rfl s9_firstTest w_1570 rfl ⟨Nat.le_of_ble_eq_true rfl, Nat.le_of_ble_eq_true rfl⟩ ⟨Nat.le_of_ble_eq_true rfl, Nat.le_of_ble_eq_true rfl⟩ (Nat.le_of_ble_eq_true rfl) dX9_cost_22) fun x22 => ?_
      refine v_istore_n (i := 2) (L' := [(2, .int x22), (0, .ref this), (1, .int p0)]) hc dX9_cost_25 rfl (hn 2 (Nat.le_of_ble_eq_true rfl)) rfl ?_
      refine v_iload_n (i := 2) hc 0 rfl dX9_cost_26 rfl ?_
      refine v_if_ge hc 39 dX9_cost_27 rfl ?_ ?_
      · refine v_iload_n (i := 2) hc 0 rfl dX9_cost_39 rfl ?_
        refine v_aload_n (i := 0) hc 1 rfl dX9_cost_40 rfl ?_
        refine v_iload_n (i := 1) hc 2 rfl dX9_cost_41 rfl ?_
        refine v_bipush (x := (8 : Int32)) hc dX9_cost_42 zb_8 ?_
        refine v_cI hc (m_V' (As := [.int p0, .int (8 : Int32)]) (b := this) (rest := [.int x22]) 2 hc hr (fun l D tys base => ct9_pieceCell l D tys base h this p0 (8 : Int32)) (fun x hx => ob9_pieceCell hx) rfl s9_pieceCell w_1327 rfl ⟨Nat.le_of_ble_eq_true rfl, Nat.le_of_ble_eq_true rfl⟩ ⟨Nat.le_of_ble_eq_true rfl, Nat.le_of_ble_eq_true rfl⟩ (Nat.le_of_ble_eq_true rfl) dX9_cost_44) fun x44 => ?_
        refine v_isub hc dX9_cost_47 ?_
        exact v_iret hc hq rfl rfl (Nat.le_of_ble_eq_true rfl) (Nat.le_of_ble_eq_true rfl) rfl dX9_cost_48
      · refine v_aload_n (i := 0) hc 1 rfl dX9_cost_30 rfl ?_
        refine v_getV hc kX9 0 (by decide) w_1131 rfl dX9_cost_31 (gR rfl fun x31 => ?_)
        refine v_iconst (x := (0 : Int32)) hc dX9_cost_34 zi_0 ?_
        refine v_iald hc dX9_cost_35 fun x35 => ?_
        refine v_goto hc 40 dX9_cost_36 rfl ?_
        refine v_aload_n (i := 0) hc 1 rfl dX9_cost_40 rfl ?_
        refine v_iload_n (i := 1) hc 2 rfl dX9_cost_41 rfl ?_
        refine v_bipush (x := (8 : Int32)) hc dX9_cost_42 zb_8 ?_
        refine v_cI hc (m_V' (As := [.int p0, .int (8 : Int32)]) (b := this) (rest := [.int x35]) 2 hc hr (fun l D tys base => ct9_pieceCell l D tys base h this p0 (8 : Int32)) (fun x hx => ob9_pieceCell hx) rfl s9_pieceCell w_1327 rfl ⟨Nat.le_of_ble_eq_true rfl, Nat.le_of_ble_eq_true rfl⟩ ⟨Nat.le_of_ble_eq_true rfl, Nat.le_of_ble_eq_true rfl⟩ (Nat.le_of_ble_eq_true rfl) dX9_cost_44) fun x44 => ?_
        refine v_isub hc dX9_cost_47 ?_
        exact v_iret hc hq rfl rfl (Nat.le_of_ble_eq_true rfl) (Nat.le_of_ble_eq_true rfl) rfl dX9_cost_48
    · refine v_iconst (x := (0 : Int32)) hc dX9_cost_18 zi_0 ?_
      exact v_iret hc hq rfl rfl (Nat.le_of_ble_eq_true rfl) (Nat.le_of_ble_eq_true rfl) rfl dX9_cost_19
  · refine v_iconst (x := (-1 : Int32)) hc dX9_cost_8 zi_m1 ?_
    exact v_iret hc hq rfl rfl (Nat.le_of_ble_eq_true rfl) (Nat.le_of_ble_eq_true rfl) rfl dX9_cost_9
theorem s9_cost : YV yX9_cost RX9 cX9_cost 3 (some .int) 1 := ⟨w_1577, w_1575, w_1576, w_118, rfl, by decide +kernel, by decide +kernel, by decide +kernel⟩
def f9_cheapest_22 (h : AH) (v0 : Nat) (v2 : Int32) : Nat → Int32 → Int32 → Option (Int32)
  | 0, _, _ => none
  | n + 1, v3, v4 => (fR 9 0 h v0).bind fun x25 => (aI 0 h x25 (1 : Int32)).bind fun x29 => (if x29 ≤ v4 then some v3 else (if ((v2 >>> (v4 &&& 31)) &&& (1 : Int32)) = (1 : Int32) then (if v3 < 0 then (some (v4 + (1 : Int32))).bind fun x80 => f9_cheapest_22 h v0 v2 n v4 x80 else (fR 9 0 h v0).bind fun x48 => (aI 0 h x48 (((10 : Int32) + ((2 : Int32) * v4)) + (1 : Int32))).bind fun x60 => (fR 9 0 h v0).bind fun x62 => (aI 0 h x62 (((10 : Int32) + ((2 : Int32) * v3)) + (1 : Int32))).bind fun x73 => (if x73 ≤ x60 then (some (v4 + (1 : Int32))).bind fun x80 => f9_cheapest_22 h v0 v2 n v3 x80 else (some (v4 + (1 : Int32))).bind fun x80 => f9_cheapest_22 h v0 v2 n v4 x80)) else (some (v4 + (1 : Int32))).bind fun x80 => f9_cheapest_22 h v0 v2 n v3 x80))
set_option maxRecDepth 100000 in
theorem vl9_cheapest_22 {κ : Kx} (hc : CX κ RX9 cX9_cheapest) (hr : RX κ ({ frames := 2, cells := 0, slots := 0, locals := 46 } : Room)) (hq : QX κ (some .int) 0 0) (hL : 5 = κ.2.2.2.2.1)  (h : AH) (v0 : Nat) (v2 : Int32) : ∀ n (v3 : Int32) (v4 : Int32), V κ (rI h) 0 0 22 [(0, .ref v0), (2, .int v2), (3, .int v3), (4, .int v4)] [] h (f9_cheapest_22 h v0 v2 n v3 v4) := by
  have hn : ∀ i, i < 5 → i < κ.2.2.2.2.1 := fun i q => hL ▸ q
  intro n
  induction n with
  | zero => intros; exact v_none
  | succ n ih =>
    intro v3 v4
    rw [f9_cheapest_22.eq_2]
    refine v_iload (i := 4) hc 3 rfl dX9_cheapest_22 ?_
    refine v_aload_n (i := 0) hc 0 rfl dX9_cheapest_24 rfl ?_
    refine v_getV hc kX9 0 (by decide) w_1131 rfl dX9_cheapest_25 (gR rfl fun x25 => ?_)
    refine v_iconst (x := (1 : Int32)) hc dX9_cheapest_28 zi_1 ?_
    refine v_iald hc dX9_cheapest_29 fun x29 => ?_
    refine v_icmp_ge hc 86 dX9_cheapest_30 rfl ?_ ?_
    · refine v_iload_n (i := 3) hc 2 rfl dX9_cheapest_86 rfl ?_
      exact v_iret hc hq rfl rfl (Nat.le_of_ble_eq_true rfl) (Nat.le_of_ble_eq_true rfl) rfl dX9_cheapest_87
    · refine v_iload_n (i := 2) hc 1 rfl dX9_cheapest_33 rfl ?_
      refine v_iload (i := 4) hc 3 rfl dX9_cheapest_34 ?_
      refine v_ishr hc dX9_cheapest_36 ?_
      refine v_iconst (x := (1 : Int32)) hc dX9_cheapest_37 zi_1 ?_
      refine v_iand hc dX9_cheapest_38 ?_
      refine v_iconst (x := (1 : Int32)) hc dX9_cheapest_39 zi_1 ?_
      refine v_icmp_ne hc 80 dX9_cheapest_40 rfl ?_ ?_
      · refine v_iincN (i := 4) (y := (1 : Int32)) (L' := fun z => [(4, .int z), (0, .ref v0), (2, .int v2), (3, .int v3)]) hc 3 rfl dX9_cheapest_80 zi_1 (hn 4 (Nat.le_of_ble_eq_true rfl)) (fun _ => rfl) fun x80 => ?_
        refine v_goto hc 22 dX9_cheapest_83 rfl ?_
        refine v_sub (L' := [(0, .ref v0), (2, .int v2), (3, .int v3), (4, .int x80)]) [1, 2, 3, 0] rfl ?_
        exact ih v3 x80
      · refine v_iload_n (i := 3) hc 2 rfl dX9_cheapest_43 rfl ?_
        refine v_if_lt hc 77 dX9_cheapest_44 rfl ?_ ?_
        · refine v_iload (i := 4) hc 3 rfl dX9_cheapest_77 ?_
          refine v_istore_n (i := 3) (L' := [(3, .int v4), (0, .ref v0), (2, .int v2), (4, .int v4)]) hc dX9_cheapest_79 rfl (hn 3 (Nat.le_of_ble_eq_true rfl)) rfl ?_
          refine v_iincN (i := 4) (y := (1 : Int32)) (L' := fun z => [(4, .int z), (3, .int v4), (0, .ref v0), (2, .int v2)]) hc 3 rfl dX9_cheapest_80 zi_1 (hn 4 (Nat.le_of_ble_eq_true rfl)) (fun _ => rfl) fun x80 => ?_
          refine v_goto hc 22 dX9_cheapest_83 rfl ?_
          refine v_sub (L' := [(0, .ref v0), (2, .int v2), (3, .int v4), (4, .int x80)]) [2, 3, 1, 0] rfl ?_
          exact ih v4 x80
        · refine v_aload_n (i := 0) hc 0 rfl dX9_cheapest_47 rfl ?_
          refine v_getV hc kX9 0 (by decide) w_1131 rfl dX9_cheapest_48 (gR rfl fun x48 => ?_)
          refine v_bipush (x := (10 : Int32)) hc dX9_cheapest_51 zb_10 ?_
          refine v_iconst (x := (2 : Int32)) hc dX9_cheapest_53 zi_2 ?_
          refine v_iload (i := 4) hc 3 rfl dX9_cheapest_54 ?_
          refine v_imul hc dX9_cheapest_56 ?_
          refine v_iadd hc dX9_cheapest_57 ?_
          refine v_iconst (x := (1 : Int32)) hc dX9_cheapest_58 zi_1 ?_
          refine v_iadd hc dX9_cheapest_59 ?_
          refine v_iald hc dX9_cheapest_60 fun x60 => ?_
          refine v_aload_n (i := 0) hc 0 rfl dX9_cheapest_61 rfl ?_
          refine v_getV hc kX9 0 (by decide) w_1131 rfl dX9_cheapest_62 (gR rfl fun x62 => ?_)
          refine v_bipush (x := (10 : Int32)) hc dX9_cheapest_65 zb_10 ?_
          refine v_iconst (x := (2 : Int32)) hc dX9_cheapest_67 zi_2 ?_
          refine v_iload_n (i := 3) hc 2 rfl dX9_cheapest_68 rfl ?_
          refine v_imul hc dX9_cheapest_69 ?_
          refine v_iadd hc dX9_cheapest_70 ?_
          refine v_iconst (x := (1 : Int32)) hc dX9_cheapest_71 zi_1 ?_
          refine v_iadd hc dX9_cheapest_72 ?_
          refine v_iald hc dX9_cheapest_73 fun x73 => ?_
          refine v_icmp_ge hc 80 dX9_cheapest_74 rfl ?_ ?_
          · refine v_iincN (i := 4) (y := (1 : Int32)) (L' := fun z => [(4, .int z), (0, .ref v0), (2, .int v2), (3, .int v3)]) hc 3 rfl dX9_cheapest_80 zi_1 (hn 4 (Nat.le_of_ble_eq_true rfl)) (fun _ => rfl) fun x80 => ?_
            refine v_goto hc 22 dX9_cheapest_83 rfl ?_
            refine v_sub (L' := [(0, .ref v0), (2, .int v2), (3, .int v3), (4, .int x80)]) [1, 2, 3, 0] rfl ?_
            exact ih v3 x80
          · refine v_iload (i := 4) hc 3 rfl dX9_cheapest_77 ?_
            refine v_istore_n (i := 3) (L' := [(3, .int v4), (0, .ref v0), (2, .int v2), (4, .int v4)]) hc dX9_cheapest_79 rfl (hn 3 (Nat.le_of_ble_eq_true rfl)) rfl ?_
            refine v_iincN (i := 4) (y := (1 : Int32)) (L' := fun z => [(4, .int z), (3, .int v4), (0, .ref v0), (2, .int v2)]) hc 3 rfl dX9_cheapest_80 zi_1 (hn 4 (Nat.le_of_ble_eq_true rfl)) (fun _ => rfl) fun x80 => ?_
            refine v_goto hc 22 dX9_cheapest_83 rfl ?_
            refine v_sub (L' := [(0, .ref v0), (2, .int v2), (3, .int v4), (4, .int x80)]) [2, 3, 1, 0] rfl ?_
            exact ih v4 x80
def f9_cheapest (h : AH) (this : Nat) (p0 : Int32) : Option (Int32) := (hObj 9 h this).bind fun _ => (f9_isPiece h this p0).bind fun x2 => (if x2 = true then (f9_young h this p0).bind fun x12 => f9_cheapest_22 h this x12 FU (-2 : Int32) (0 : Int32) else some (-1 : Int32))
theorem ob9_cheapest {h : AH} {this : Nat} {p0 : Int32} {x : Int32} (e : f9_cheapest h this p0 = some x) : ∃ fs, hObj 9 h this = some fs := by
  unfold f9_cheapest at e
  obtain ⟨fs, h1, -⟩ := bd e
  exact ⟨fs, h1⟩
set_option maxRecDepth 100000 in
theorem ct9_cheapest (l : Launch) (D : va_G) (tys : Tys) (base : Nat) (h : AH) (this : Nat) (p0 : Int32) : Ct l D tys base yX9_cheapest cX9_cheapest 5 (some .int) 2 46 0 0 [.ref this, .int p0] h (rI h) (f9_cheapest h this p0) := by
  refine Ct.intro (own := RX9) (L := [(0, .ref this), (1, .int p0)]) rfl (by decide) rfl (Nat.le_of_ble_eq_true rfl) fun κ hc hr hq hi hL => ?_
  have hn : ∀ i, i < 5 → i < κ.2.2.2.2.1 := fun i q => hL ▸ q
  unfold f9_cheapest
  refine v_obj ?_
  refine v_aload_n (i := 0) hc 0 rfl dX9_cheapest_0 rfl ?_
  refine v_iload_n (i := 1) hc 1 rfl dX9_cheapest_1 rfl ?_
  refine v_cB hc (m_V' (As := [.int p0]) (b := this) (rest := []) 1 hc hr (fun l D tys base => ct9_isPiece l D tys base h this p0) (fun x hx => ob9_isPiece hx) rfl s9_isPiece w_1286 rfl ⟨Nat.le_of_ble_eq_true rfl, Nat.le_of_ble_eq_true rfl⟩ ⟨Nat.le_of_ble_eq_true rfl, Nat.le_of_ble_eq_true rfl⟩ (Nat.le_of_ble_eq_true rfl) dX9_cheapest_2) fun x2 => ?_
  refine v_ifb_ne hc 10 dX9_cheapest_5 rfl ?_ ?_
  · refine v_aload_n (i := 0) hc 0 rfl dX9_cheapest_10 rfl ?_
    refine v_iload_n (i := 1) hc 1 rfl dX9_cheapest_11 rfl ?_
    refine v_cI hc (m_V' (As := [.int p0]) (b := this) (rest := []) 1 hc hr (fun l D tys base => ct9_young l D tys base h this p0) (fun x hx => ob9_young hx) rfl s9_young w_1331 rfl ⟨Nat.le_of_ble_eq_true rfl, Nat.le_of_ble_eq_true rfl⟩ ⟨Nat.le_of_ble_eq_true rfl, Nat.le_of_ble_eq_true rfl⟩ (Nat.le_of_ble_eq_true rfl) dX9_cheapest_12) fun x12 => ?_
    refine v_istore_n (i := 2) (L' := [(2, .int x12), (0, .ref this), (1, .int p0)]) hc dX9_cheapest_15 rfl (hn 2 (Nat.le_of_ble_eq_true rfl)) rfl ?_
    refine v_bipush (x := (-2 : Int32)) hc dX9_cheapest_16 zb_m2 ?_
    refine v_istore_n (i := 3) (L' := [(3, .int (-2 : Int32)), (2, .int x12), (0, .ref this), (1, .int p0)]) hc dX9_cheapest_18 rfl (hn 3 (Nat.le_of_ble_eq_true rfl)) rfl ?_
    refine v_iconst (x := (0 : Int32)) hc dX9_cheapest_19 zi_0 ?_
    refine v_istore (i := 4) (L' := [(4, .int (0 : Int32)), (3, .int (-2 : Int32)), (2, .int x12), (0, .ref this), (1, .int p0)]) hc dX9_cheapest_20 (hn 4 (Nat.le_of_ble_eq_true rfl)) rfl ?_
    refine v_sub (L' := [(0, .ref this), (2, .int x12), (3, .int (-2 : Int32)), (4, .int (0 : Int32))]) [3, 2, 1, 0] rfl ?_
    exact vl9_cheapest_22 hc hr hq hL h this x12 FU (-2 : Int32) (0 : Int32)
  · refine v_iconst (x := (-1 : Int32)) hc dX9_cheapest_8 zi_m1 ?_
    exact v_iret hc hq rfl rfl (Nat.le_of_ble_eq_true rfl) (Nat.le_of_ble_eq_true rfl) rfl dX9_cheapest_9
theorem s9_cheapest : YV yX9_cheapest RX9 cX9_cheapest 5 (some .int) 1 := ⟨w_1581, w_1579, w_1580, w_118, rfl, by decide +kernel, by decide +kernel, by decide +kernel⟩
def f9_likely_18 (h : AH) (v0 : Nat) (v1 : Int32) : Nat → Int32 → Int32 → Int32 → Option (Int32)
  | 0, _, _, _ => none
  | n + 1, v2, v3, v4 => (if (6 : Int32) ≤ v4 then some v2 else (f9_sharedWith h v0 v1 v4).bind fun x29 => (if v3 < x29 then (some (v4 + (1 : Int32))).bind fun x49 => f9_likely_18 h v0 v1 n v4 x29 x49 else (some (v4 + (1 : Int32))).bind fun x49 => f9_likely_18 h v0 v1 n v2 v3 x49))
set_option maxRecDepth 100000 in
theorem vl9_likely_18 {κ : Kx} (hc : CX κ RX9 cX9_likely) (hr : RX κ ({ frames := 4, cells := 0, slots := 0, locals := 90 } : Room)) (hq : QX κ (some .int) 0 0) (hL : 6 = κ.2.2.2.2.1)  (h : AH) (v0 : Nat) (v1 : Int32) : ∀ n (v2 : Int32) (v3 : Int32) (v4 : Int32), V κ (rI h) 0 0 18 [(0, .ref v0), (1, .int v1), (2, .int v2), (3, .int v3), (4, .int v4)] [] h (f9_likely_18 h v0 v1 n v2 v3 v4) := by
  have hn : ∀ i, i < 6 → i < κ.2.2.2.2.1 := fun i q => hL ▸ q
  intro n
  induction n with
  | zero => intros; exact v_none
  | succ n ih =>
    intro v2 v3 v4
    rw [f9_likely_18.eq_2]
    refine v_iload (i := 4) hc 4 rfl dX9_likely_18 ?_
    refine v_bipush (x := (6 : Int32)) hc dX9_likely_20 zb_6 ?_
    refine v_icmp_ge hc 55 dX9_likely_22 rfl ?_ ?_
    · refine v_iload_n (i := 2) hc 2 rfl dX9_likely_55 rfl ?_
      exact v_iret hc hq rfl rfl (Nat.le_of_ble_eq_true rfl) (Nat.le_of_ble_eq_true rfl) rfl dX9_likely_56
    · refine v_aload_n (i := 0) hc 0 rfl dX9_likely_25 rfl ?_
      refine v_iload_n (i := 1) hc 1 rfl dX9_likely_26 rfl ?_
      refine v_iload (i := 4) hc 4 rfl dX9_likely_27 ?_
      refine v_cI hc (m_V' (As := [.int v1, .int v4]) (b := v0) (rest := []) 2 hc hr (fun l D tys base => ct9_sharedWith l D tys base h v0 v1 v4) (fun x hx => ob9_sharedWith hx) rfl s9_sharedWith w_1339 rfl ⟨Nat.le_of_ble_eq_true rfl, Nat.le_of_ble_eq_true rfl⟩ ⟨Nat.le_of_ble_eq_true rfl, Nat.le_of_ble_eq_true rfl⟩ (Nat.le_of_ble_eq_true rfl) dX9_likely_29) fun x29 => ?_
      refine v_istore (i := 5) (L' := [(5, .int x29), (0, .ref v0), (1, .int v1), (2, .int v2), (3, .int v3), (4, .int v4)]) hc dX9_likely_32 (hn 5 (Nat.le_of_ble_eq_true rfl)) rfl ?_
      refine v_iload (i := 5) hc 0 rfl dX9_likely_34 ?_
      refine v_iload_n (i := 3) hc 4 rfl dX9_likely_36 rfl ?_
      refine v_icmp_gt hc 43 dX9_likely_37 rfl ?_ ?_
      · refine v_iload (i := 5) hc 0 rfl dX9_likely_43 ?_
        refine v_istore_n (i := 3) (L' := [(3, .int x29), (5, .int x29), (0, .ref v0), (1, .int v1), (2, .int v2), (4, .int v4)]) hc dX9_likely_45 rfl (hn 3 (Nat.le_of_ble_eq_true rfl)) rfl ?_
        refine v_iload (i := 4) hc 5 rfl dX9_likely_46 ?_
        refine v_istore_n (i := 2) (L' := [(2, .int v4), (3, .int x29), (5, .int x29), (0, .ref v0), (1, .int v1), (4, .int v4)]) hc dX9_likely_48 rfl (hn 2 (Nat.le_of_ble_eq_true rfl)) rfl ?_
        refine v_iincN (i := 4) (y := (1 : Int32)) (L' := fun z => [(4, .int z), (2, .int v4), (3, .int x29), (5, .int x29), (0, .ref v0), (1, .int v1)]) hc 5 rfl dX9_likely_49 zi_1 (hn 4 (Nat.le_of_ble_eq_true rfl)) (fun _ => rfl) fun x49 => ?_
        refine v_goto hc 18 dX9_likely_52 rfl ?_
        refine v_sub (L' := [(0, .ref v0), (1, .int v1), (2, .int v4), (3, .int x29), (4, .int x49)]) [4, 5, 1, 2, 0] rfl ?_
        exact ih v4 x29 x49
      · refine v_goto hc 49 dX9_likely_40 rfl ?_
        refine v_iincN (i := 4) (y := (1 : Int32)) (L' := fun z => [(4, .int z), (5, .int x29), (0, .ref v0), (1, .int v1), (2, .int v2), (3, .int v3)]) hc 5 rfl dX9_likely_49 zi_1 (hn 4 (Nat.le_of_ble_eq_true rfl)) (fun _ => rfl) fun x49 => ?_
        refine v_goto hc 18 dX9_likely_52 rfl ?_
        refine v_sub (L' := [(0, .ref v0), (1, .int v1), (2, .int v2), (3, .int v3), (4, .int x49)]) [2, 3, 4, 5, 0] rfl ?_
        exact ih v2 v3 x49
def f9_likely (h : AH) (this : Nat) (p0 : Int32) : Option (Int32) := (hObj 9 h this).bind fun _ => (f9_isPiece h this p0).bind fun x2 => (if x2 = true then f9_likely_18 h this p0 FU (-2 : Int32) (0 : Int32) (0 : Int32) else some (-1 : Int32))
theorem ob9_likely {h : AH} {this : Nat} {p0 : Int32} {x : Int32} (e : f9_likely h this p0 = some x) : ∃ fs, hObj 9 h this = some fs := by
  unfold f9_likely at e
  obtain ⟨fs, h1, -⟩ := bd e
  exact ⟨fs, h1⟩
set_option maxRecDepth 100000 in
theorem ct9_likely (l : Launch) (D : va_G) (tys : Tys) (base : Nat) (h : AH) (this : Nat) (p0 : Int32) : Ct l D tys base yX9_likely cX9_likely 6 (some .int) 4 90 0 0 [.ref this, .int p0] h (rI h) (f9_likely h this p0) := by
  refine Ct.intro (own := RX9) (L := [(0, .ref this), (1, .int p0)]) rfl (by decide) rfl (Nat.le_of_ble_eq_true rfl) fun κ hc hr hq hi hL => ?_
  have hn : ∀ i, i < 6 → i < κ.2.2.2.2.1 := fun i q => hL ▸ q
  unfold f9_likely
  refine v_obj ?_
  refine v_aload_n (i := 0) hc 0 rfl dX9_likely_0 rfl ?_
  refine v_iload_n (i := 1) hc 1 rfl dX9_likely_1 rfl ?_
  refine v_cB hc (m_V' (As := [.int p0]) (b := this) (rest := []) 1 hc hr (fun l D tys base => ct9_isPiece l D tys base h this p0) (fun x hx => ob9_isPiece hx) rfl s9_isPiece w_1286 rfl ⟨Nat.le_of_ble_eq_true rfl, Nat.le_of_ble_eq_true rfl⟩ ⟨Nat.le_of_ble_eq_true rfl, Nat.le_of_ble_eq_true rfl⟩ (Nat.le_of_ble_eq_true rfl) dX9_likely_2) fun x2 => ?_
  refine v_ifb_ne hc 10 dX9_likely_5 rfl ?_ ?_
  · refine v_bipush (x := (-2 : Int32)) hc dX9_likely_10 zb_m2 ?_
    refine v_istore_n (i := 2) (L' := [(2, .int (-2 : Int32)), (0, .ref this), (1, .int p0)]) hc dX9_likely_12 rfl (hn 2 (Nat.le_of_ble_eq_true rfl)) rfl ?_
    refine v_iconst (x := (0 : Int32)) hc dX9_likely_13 zi_0 ?_
    refine v_istore_n (i := 3) (L' := [(3, .int (0 : Int32)), (2, .int (-2 : Int32)), (0, .ref this), (1, .int p0)]) hc dX9_likely_14 rfl (hn 3 (Nat.le_of_ble_eq_true rfl)) rfl ?_
    refine v_iconst (x := (0 : Int32)) hc dX9_likely_15 zi_0 ?_
    refine v_istore (i := 4) (L' := [(4, .int (0 : Int32)), (3, .int (0 : Int32)), (2, .int (-2 : Int32)), (0, .ref this), (1, .int p0)]) hc dX9_likely_16 (hn 4 (Nat.le_of_ble_eq_true rfl)) rfl ?_
    refine v_sub (L' := [(0, .ref this), (1, .int p0), (2, .int (-2 : Int32)), (3, .int (0 : Int32)), (4, .int (0 : Int32))]) [3, 4, 2, 1, 0] rfl ?_
    exact vl9_likely_18 hc hr hq hL h this p0 FU (-2 : Int32) (0 : Int32) (0 : Int32)
  · refine v_iconst (x := (-1 : Int32)) hc dX9_likely_8 zi_m1 ?_
    exact v_iret hc hq rfl rfl (Nat.le_of_ble_eq_true rfl) (Nat.le_of_ble_eq_true rfl) rfl dX9_likely_9
theorem s9_likely : YV yX9_likely RX9 cX9_likely 6 (some .int) 1 := ⟨w_1585, w_1583, w_1584, w_118, rfl, by decide +kernel, by decide +kernel, by decide +kernel⟩
def f9_kin_16 (h : AH) (v0 : Nat) (v1 : Int32) (v2 : Int32) : Nat → Int32 → Int32 → Option (Int32)
  | 0, _, _ => none
  | n + 1, v3, v4 => (if (6 : Int32) ≤ v4 then some v3 else (f9_sharedWith h v0 v1 v4).bind fun x28 => (if x28 ≤ 0 then (some (v3 + (0 : Int32))).bind fun x50 => (some (v4 + (1 : Int32))).bind fun x51 => f9_kin_16 h v0 v1 v2 n x50 x51 else (f9_sharedWith h v0 v2 v4).bind fun x38 => (if x38 ≤ 0 then (some (v3 + (0 : Int32))).bind fun x50 => (some (v4 + (1 : Int32))).bind fun x51 => f9_kin_16 h v0 v1 v2 n x50 x51 else (some (v3 + (1 : Int32))).bind fun x50 => (some (v4 + (1 : Int32))).bind fun x51 => f9_kin_16 h v0 v1 v2 n x50 x51)))
set_option maxRecDepth 100000 in
theorem vl9_kin_16 {κ : Kx} (hc : CX κ RX9 cX9_kin) (hr : RX κ ({ frames := 4, cells := 0, slots := 0, locals := 90 } : Room)) (hq : QX κ (some .int) 0 0) (hL : 5 = κ.2.2.2.2.1)  (h : AH) (v0 : Nat) (v1 : Int32) (v2 : Int32) : ∀ n (v3 : Int32) (v4 : Int32), V κ (rI h) 0 0 16 [(0, .ref v0), (1, .int v1), (2, .int v2), (3, .int v3), (4, .int v4)] [] h (f9_kin_16 h v0 v1 v2 n v3 v4) := by
  have hn : ∀ i, i < 5 → i < κ.2.2.2.2.1 := fun i q => hL ▸ q
  intro n
  induction n with
  | zero => intros; exact v_none
  | succ n ih =>
    intro v3 v4
    rw [f9_kin_16.eq_2]
    refine v_iload (i := 4) hc 4 rfl dX9_kin_16 ?_
    refine v_bipush (x := (6 : Int32)) hc dX9_kin_18 zb_6 ?_
    refine v_icmp_ge hc 57 dX9_kin_20 rfl ?_ ?_
    · refine v_iload_n (i := 3) hc 3 rfl dX9_kin_57 rfl ?_
      exact v_iret hc hq rfl rfl (Nat.le_of_ble_eq_true rfl) (Nat.le_of_ble_eq_true rfl) rfl dX9_kin_58
    · refine v_iload_n (i := 3) hc 3 rfl dX9_kin_23 rfl ?_
      refine v_aload_n (i := 0) hc 0 rfl dX9_kin_24 rfl ?_
      refine v_iload_n (i := 1) hc 1 rfl dX9_kin_25 rfl ?_
      refine v_iload (i := 4) hc 4 rfl dX9_kin_26 ?_
      refine v_cI hc (m_V' (As := [.int v1, .int v4]) (b := v0) (rest := [.int v3]) 2 hc hr (fun l D tys base => ct9_sharedWith l D tys base h v0 v1 v4) (fun x hx => ob9_sharedWith hx) rfl s9_sharedWith w_1339 rfl ⟨Nat.le_of_ble_eq_true rfl, Nat.le_of_ble_eq_true rfl⟩ ⟨Nat.le_of_ble_eq_true rfl, Nat.le_of_ble_eq_true rfl⟩ (Nat.le_of_ble_eq_true rfl) dX9_kin_28) fun x28 => ?_
      refine v_if_le hc 48 dX9_kin_31 rfl ?_ ?_
      · refine v_iconst (x := (0 : Int32)) hc dX9_kin_48 zi_0 ?_
        refine v_iadd hc dX9_kin_49 ?_
        refine v_nmI fun x50 => ?_
        refine v_istore_n (i := 3) (L' := [(3, .int x50), (0, .ref v0), (1, .int v1), (2, .int v2), (4, .int v4)]) hc dX9_kin_50 rfl (hn 3 (Nat.le_of_ble_eq_true rfl)) rfl ?_
        refine v_iincN (i := 4) (y := (1 : Int32)) (L' := fun z => [(4, .int z), (3, .int x50), (0, .ref v0), (1, .int v1), (2, .int v2)]) hc 4 rfl dX9_kin_51 zi_1 (hn 4 (Nat.le_of_ble_eq_true rfl)) (fun _ => rfl) fun x51 => ?_
        refine v_goto hc 16 dX9_kin_54 rfl ?_
        refine v_sub (L' := [(0, .ref v0), (1, .int v1), (2, .int v2), (3, .int x50), (4, .int x51)]) [2, 3, 4, 1, 0] rfl ?_
        exact ih x50 x51
      · refine v_aload_n (i := 0) hc 0 rfl dX9_kin_34 rfl ?_
        refine v_iload_n (i := 2) hc 2 rfl dX9_kin_35 rfl ?_
        refine v_iload (i := 4) hc 4 rfl dX9_kin_36 ?_
        refine v_cI hc (m_V' (As := [.int v2, .int v4]) (b := v0) (rest := [.int v3]) 2 hc hr (fun l D tys base => ct9_sharedWith l D tys base h v0 v2 v4) (fun x hx => ob9_sharedWith hx) rfl s9_sharedWith w_1339 rfl ⟨Nat.le_of_ble_eq_true rfl, Nat.le_of_ble_eq_true rfl⟩ ⟨Nat.le_of_ble_eq_true rfl, Nat.le_of_ble_eq_true rfl⟩ (Nat.le_of_ble_eq_true rfl) dX9_kin_38) fun x38 => ?_
        refine v_if_le hc 48 dX9_kin_41 rfl ?_ ?_
        · refine v_iconst (x := (0 : Int32)) hc dX9_kin_48 zi_0 ?_
          refine v_iadd hc dX9_kin_49 ?_
          refine v_nmI fun x50 => ?_
          refine v_istore_n (i := 3) (L' := [(3, .int x50), (0, .ref v0), (1, .int v1), (2, .int v2), (4, .int v4)]) hc dX9_kin_50 rfl (hn 3 (Nat.le_of_ble_eq_true rfl)) rfl ?_
          refine v_iincN (i := 4) (y := (1 : Int32)) (L' := fun z => [(4, .int z), (3, .int x50), (0, .ref v0), (1, .int v1), (2, .int v2)]) hc 4 rfl dX9_kin_51 zi_1 (hn 4 (Nat.le_of_ble_eq_true rfl)) (fun _ => rfl) fun x51 => ?_
          refine v_goto hc 16 dX9_kin_54 rfl ?_
          refine v_sub (L' := [(0, .ref v0), (1, .int v1), (2, .int v2), (3, .int x50), (4, .int x51)]) [2, 3, 4, 1, 0] rfl ?_
          exact ih x50 x51
        · refine v_iconst (x := (1 : Int32)) hc dX9_kin_44 zi_1 ?_
          refine v_goto hc 49 dX9_kin_45 rfl ?_
          refine v_iadd hc dX9_kin_49 ?_
          refine v_nmI fun x50 => ?_
          refine v_istore_n (i := 3) (L' := [(3, .int x50), (0, .ref v0), (1, .int v1), (2, .int v2), (4, .int v4)]) hc dX9_kin_50 rfl (hn 3 (Nat.le_of_ble_eq_true rfl)) rfl ?_
          refine v_iincN (i := 4) (y := (1 : Int32)) (L' := fun z => [(4, .int z), (3, .int x50), (0, .ref v0), (1, .int v1), (2, .int v2)]) hc 4 rfl dX9_kin_51 zi_1 (hn 4 (Nat.le_of_ble_eq_true rfl)) (fun _ => rfl) fun x51 => ?_
          refine v_goto hc 16 dX9_kin_54 rfl ?_
          refine v_sub (L' := [(0, .ref v0), (1, .int v1), (2, .int v2), (3, .int x50), (4, .int x51)]) [2, 3, 4, 1, 0] rfl ?_
          exact ih x50 x51
def f9_kin (h : AH) (this : Nat) (p0 : Int32) (p1 : Int32) : Option (Int32) := (hObj 9 h this).bind fun _ => (f9_areTwo h this p0 p1).bind fun x3 => (if x3 = true then f9_kin_16 h this p0 p1 FU (0 : Int32) (0 : Int32) else some (-1 : Int32))
theorem ob9_kin {h : AH} {this : Nat} {p0 : Int32} {p1 : Int32} {x : Int32} (e : f9_kin h this p0 p1 = some x) : ∃ fs, hObj 9 h this = some fs := by
  unfold f9_kin at e
  obtain ⟨fs, h1, -⟩ := bd e
  exact ⟨fs, h1⟩
set_option maxRecDepth 100000 in
theorem ct9_kin (l : Launch) (D : va_G) (tys : Tys) (base : Nat) (h : AH) (this : Nat) (p0 : Int32) (p1 : Int32) : Ct l D tys base yX9_kin cX9_kin 5 (some .int) 4 90 0 0 [.ref this, .int p0, .int p1] h (rI h) (f9_kin h this p0 p1) := by
  refine Ct.intro (own := RX9) (L := [(0, .ref this), (1, .int p0), (2, .int p1)]) rfl (by decide) rfl (Nat.le_of_ble_eq_true rfl) fun κ hc hr hq hi hL => ?_
  have hn : ∀ i, i < 5 → i < κ.2.2.2.2.1 := fun i q => hL ▸ q
  unfold f9_kin
  refine v_obj ?_
  refine v_aload_n (i := 0) hc 0 rfl dX9_kin_0 rfl ?_
  refine v_iload_n (i := 1) hc 1 rfl dX9_kin_1 rfl ?_
  refine v_iload_n (i := 2) hc 2 rfl dX9_kin_2 rfl ?_
  refine v_cB hc (m_V' (As := [.int p0, .int p1]) (b := this) (rest := []) 2 hc hr (fun l D tys base => ct9_areTwo l D tys base h this p0 p1) (fun x hx => ob9_areTwo hx) rfl s9_areTwo w_1504 rfl ⟨Nat.le_of_ble_eq_true rfl, Nat.le_of_ble_eq_true rfl⟩ ⟨Nat.le_of_ble_eq_true rfl, Nat.le_of_ble_eq_true rfl⟩ (Nat.le_of_ble_eq_true rfl) dX9_kin_3) fun x3 => ?_
  refine v_ifb_ne hc 11 dX9_kin_6 rfl ?_ ?_
  · refine v_iconst (x := (0 : Int32)) hc dX9_kin_11 zi_0 ?_
    refine v_istore_n (i := 3) (L' := [(3, .int (0 : Int32)), (0, .ref this), (1, .int p0), (2, .int p1)]) hc dX9_kin_12 rfl (hn 3 (Nat.le_of_ble_eq_true rfl)) rfl ?_
    refine v_iconst (x := (0 : Int32)) hc dX9_kin_13 zi_0 ?_
    refine v_istore (i := 4) (L' := [(4, .int (0 : Int32)), (3, .int (0 : Int32)), (0, .ref this), (1, .int p0), (2, .int p1)]) hc dX9_kin_14 (hn 4 (Nat.le_of_ble_eq_true rfl)) rfl ?_
    refine v_sub (L' := [(0, .ref this), (1, .int p0), (2, .int p1), (3, .int (0 : Int32)), (4, .int (0 : Int32))]) [2, 3, 4, 1, 0] rfl ?_
    exact vl9_kin_16 hc hr hq hL h this p0 p1 FU (0 : Int32) (0 : Int32)
  · refine v_iconst (x := (-1 : Int32)) hc dX9_kin_9 zi_m1 ?_
    exact v_iret hc hq rfl rfl (Nat.le_of_ble_eq_true rfl) (Nat.le_of_ble_eq_true rfl) rfl dX9_kin_10
theorem s9_kin : YV yX9_kin RX9 cX9_kin 5 (some .int) 2 := ⟨w_1589, w_1587, w_1588, w_118, rfl, by decide +kernel, by decide +kernel, by decide +kernel⟩
def f9_isHis_46 (h : AH) (v0 : Nat) (v1 : Int32) (v3 : Int32) (v4 : Int32) : Nat → Int32 → Option (Bool)
  | 0, _ => none
  | n + 1, v5 => (fR 9 12 h v0).bind fun x49 => (aI 0 h x49 v1).bind fun x53 => (if x53 ≤ v5 then some false else (fR 9 11 h v0).bind fun x59 => (aI 0 h x59 (((12 : Int32) * v1) + v5)).bind fun x69 => (f9_factOf h v0 x69 v3).bind fun x71 => (if x71 = v4 then some true else (some (v5 + (1 : Int32))).bind fun x81 => f9_isHis_46 h v0 v1 v3 v4 n x81))
set_option maxRecDepth 100000 in
theorem vl9_isHis_46 {κ : Kx} (hc : CX κ RX9 cX9_isHis) (hr : RX κ ({ frames := 1, cells := 0, slots := 0, locals := 23 } : Room)) (hq : QX κ (some .boolean) 0 0) (hL : 6 = κ.2.2.2.2.1)  (h : AH) (v0 : Nat) (v1 : Int32) (v3 : Int32) (v4 : Int32) : ∀ n (v5 : Int32), V κ (rB h) 0 0 46 [(0, .ref v0), (1, .int v1), (3, .int v3), (4, .int v4), (5, .int v5)] [] h (f9_isHis_46 h v0 v1 v3 v4 n v5) := by
  have hn : ∀ i, i < 6 → i < κ.2.2.2.2.1 := fun i q => hL ▸ q
  intro n
  induction n with
  | zero => intros; exact v_none
  | succ n ih =>
    intro v5
    rw [f9_isHis_46.eq_2]
    refine v_iload (i := 5) hc 4 rfl dX9_isHis_46 ?_
    refine v_aload_n (i := 0) hc 0 rfl dX9_isHis_48 rfl ?_
    refine v_getV hc kX9 12 (by decide) w_1143 rfl dX9_isHis_49 (gR rfl fun x49 => ?_)
    refine v_iload_n (i := 1) hc 1 rfl dX9_isHis_52 rfl ?_
    refine v_iald hc dX9_isHis_53 fun x53 => ?_
    refine v_icmp_ge hc 87 dX9_isHis_54 rfl ?_ ?_
    · refine v_iconst (x := (0 : Int32)) hc dX9_isHis_87 zi_0 ?_
      exact v_iret (v := bI false) hc hq rfl (nar_b false) (Nat.le_of_ble_eq_true rfl) (Nat.le_of_ble_eq_true rfl) rfl dX9_isHis_88
    · refine v_aload_n (i := 0) hc 0 rfl dX9_isHis_57 rfl ?_
      refine v_aload_n (i := 0) hc 0 rfl dX9_isHis_58 rfl ?_
      refine v_getV hc kX9 11 (by decide) w_1142 rfl dX9_isHis_59 (gR rfl fun x59 => ?_)
      refine v_bipush (x := (12 : Int32)) hc dX9_isHis_62 zb_12 ?_
      refine v_iload_n (i := 1) hc 1 rfl dX9_isHis_64 rfl ?_
      refine v_imul hc dX9_isHis_65 ?_
      refine v_iload (i := 5) hc 4 rfl dX9_isHis_66 ?_
      refine v_iadd hc dX9_isHis_68 ?_
      refine v_iald hc dX9_isHis_69 fun x69 => ?_
      refine v_iload_n (i := 3) hc 2 rfl dX9_isHis_70 rfl ?_
      refine v_cI hc (m_V' (As := [.int x69, .int v3]) (b := v0) (rest := []) 2 hc hr (fun l D tys base => ct9_factOf l D tys base h v0 x69 v3) (fun x hx => ob9_factOf hx) rfl s9_factOf w_1272 rfl ⟨Nat.le_of_ble_eq_true rfl, Nat.le_of_ble_eq_true rfl⟩ ⟨Nat.le_of_ble_eq_true rfl, Nat.le_of_ble_eq_true rfl⟩ (Nat.le_of_ble_eq_true rfl) dX9_isHis_71) fun x71 => ?_
      refine v_iload (i := 4) hc 3 rfl dX9_isHis_74 ?_
      refine v_icmp_ne hc 81 dX9_isHis_76 rfl ?_ ?_
      · refine v_iincN (i := 5) (y := (1 : Int32)) (L' := fun z => [(5, .int z), (0, .ref v0), (1, .int v1), (3, .int v3), (4, .int v4)]) hc 4 rfl dX9_isHis_81 zi_1 (hn 5 (Nat.le_of_ble_eq_true rfl)) (fun _ => rfl) fun x81 => ?_
        refine v_goto hc 46 dX9_isHis_84 rfl ?_
        refine v_sub (L' := [(0, .ref v0), (1, .int v1), (3, .int v3), (4, .int v4), (5, .int x81)]) [1, 2, 3, 4, 0] rfl ?_
        exact ih x81
      · refine v_iconst (x := (1 : Int32)) hc dX9_isHis_79 zi_1 ?_
        exact v_iret (v := bI true) hc hq rfl (nar_b true) (Nat.le_of_ble_eq_true rfl) (Nat.le_of_ble_eq_true rfl) rfl dX9_isHis_80
def f9_isHis (h : AH) (this : Nat) (p0 : Int32) (p1 : Int32) : Option (Bool) := (hObj 9 h this).bind fun _ => (fR 9 0 h this).bind fun x1 => (aI 0 h x1 (((2230 : Int32) + ((3 : Int32) * p1)) + (1 : Int32))).bind fun x13 => (fR 9 0 h this).bind fun x16 => (aI 0 h x16 (((2230 : Int32) + ((3 : Int32) * p1)) + (2 : Int32))).bind fun x28 => (f9_truthOf h this x13).bind fun x33 => (if x33 = x28 then some true else f9_isHis_46 h this p0 x13 x28 FU (0 : Int32))
theorem ob9_isHis {h : AH} {this : Nat} {p0 : Int32} {p1 : Int32} {x : Bool} (e : f9_isHis h this p0 p1 = some x) : ∃ fs, hObj 9 h this = some fs := by
  unfold f9_isHis at e
  obtain ⟨fs, h1, -⟩ := bd e
  exact ⟨fs, h1⟩
set_option maxRecDepth 100000 in
theorem ct9_isHis (l : Launch) (D : va_G) (tys : Tys) (base : Nat) (h : AH) (this : Nat) (p0 : Int32) (p1 : Int32) : Ct l D tys base yX9_isHis cX9_isHis 6 (some .boolean) 1 23 0 0 [.ref this, .int p0, .int p1] h (rB h) (f9_isHis h this p0 p1) := by
  refine Ct.intro (own := RX9) (L := [(0, .ref this), (1, .int p0), (2, .int p1)]) rfl (by decide) rfl (Nat.le_of_ble_eq_true rfl) fun κ hc hr hq hi hL => ?_
  have hn : ∀ i, i < 6 → i < κ.2.2.2.2.1 := fun i q => hL ▸ q
  unfold f9_isHis
  refine v_obj ?_
  refine v_aload_n (i := 0) hc 0 rfl dX9_isHis_0 rfl ?_
  refine v_getV hc kX9 0 (by decide) w_1131 rfl dX9_isHis_1 (gR rfl fun x1 => ?_)
  refine v_sipush (x := (2230 : Int32)) hc dX9_isHis_4 zs_2230 ?_
  refine v_iconst (x := (3 : Int32)) hc dX9_isHis_7 zi_3 ?_
  refine v_iload_n (i := 2) hc 2 rfl dX9_isHis_8 rfl ?_
  refine v_imul hc dX9_isHis_9 ?_
  refine v_iadd hc dX9_isHis_10 ?_
  refine v_iconst (x := (1 : Int32)) hc dX9_isHis_11 zi_1 ?_
  refine v_iadd hc dX9_isHis_12 ?_
  refine v_iald hc dX9_isHis_13 fun x13 => ?_
  refine v_istore_n (i := 3) (L' := [(3, .int x13), (0, .ref this), (1, .int p0), (2, .int p1)]) hc dX9_isHis_14 rfl (hn 3 (Nat.le_of_ble_eq_true rfl)) rfl ?_
  refine v_aload_n (i := 0) hc 1 rfl dX9_isHis_15 rfl ?_
  refine v_getV hc kX9 0 (by decide) w_1131 rfl dX9_isHis_16 (gR rfl fun x16 => ?_)
  refine v_sipush (x := (2230 : Int32)) hc dX9_isHis_19 zs_2230 ?_
  refine v_iconst (x := (3 : Int32)) hc dX9_isHis_22 zi_3 ?_
  refine v_iload_n (i := 2) hc 3 rfl dX9_isHis_23 rfl ?_
  refine v_imul hc dX9_isHis_24 ?_
  refine v_iadd hc dX9_isHis_25 ?_
  refine v_iconst (x := (2 : Int32)) hc dX9_isHis_26 zi_2 ?_
  refine v_iadd hc dX9_isHis_27 ?_
  refine v_iald hc dX9_isHis_28 fun x28 => ?_
  refine v_istore (i := 4) (L' := [(4, .int x28), (3, .int x13), (0, .ref this), (1, .int p0), (2, .int p1)]) hc dX9_isHis_29 (hn 4 (Nat.le_of_ble_eq_true rfl)) rfl ?_
  refine v_aload_n (i := 0) hc 2 rfl dX9_isHis_31 rfl ?_
  refine v_iload_n (i := 3) hc 1 rfl dX9_isHis_32 rfl ?_
  refine v_cI hc (m_V' (As := [.int x13]) (b := this) (rest := []) 1 hc hr (fun l D tys base => ct9_truthOf l D tys base h this x13) (fun x hx => ob9_truthOf hx) rfl s9_truthOf w_1263 rfl ⟨Nat.le_of_ble_eq_true rfl, Nat.le_of_ble_eq_true rfl⟩ ⟨Nat.le_of_ble_eq_true rfl, Nat.le_of_ble_eq_true rfl⟩ (Nat.le_of_ble_eq_true rfl) dX9_isHis_33) fun x33 => ?_
  refine v_iload (i := 4) hc 0 rfl dX9_isHis_36 ?_
  refine v_icmp_ne hc 43 dX9_isHis_38 rfl ?_ ?_
  · refine v_iconst (x := (0 : Int32)) hc dX9_isHis_43 zi_0 ?_
    refine v_istore (i := 5) (L' := [(5, .int (0 : Int32)), (4, .int x28), (3, .int x13), (0, .ref this), (1, .int p0), (2, .int p1)]) hc dX9_isHis_44 (hn 5 (Nat.le_of_ble_eq_true rfl)) rfl ?_
    refine v_sub (L' := [(0, .ref this), (1, .int p0), (3, .int x13), (4, .int x28), (5, .int (0 : Int32))]) [3, 4, 2, 1, 0] rfl ?_
    exact vl9_isHis_46 hc hr hq hL h this p0 x13 x28 FU (0 : Int32)
  · refine v_iconst (x := (1 : Int32)) hc dX9_isHis_41 zi_1 ?_
    exact v_iret (v := bI true) hc hq rfl (nar_b true) (Nat.le_of_ble_eq_true rfl) (Nat.le_of_ble_eq_true rfl) rfl dX9_isHis_42
theorem s9_isHis : YV yX9_isHis RX9 cX9_isHis 6 (some .boolean) 2 := ⟨w_1597, w_1596, w_99, w_118, rfl, by decide +kernel, by decide +kernel, by decide +kernel⟩
def f9_could_115 (k14 : Int32 → Int32 → Option (Int32)) (h : AH) (v0 : Nat) (v1 : Int32) (v2 : Int32) (v3 : Int32) (v5 : Bool) : Option (Int32) := (if v5 = true then (some (v2 ||| ((1 : Int32) <<< (v3 &&& 31)))).bind fun x129 => (some (v3 + (1 : Int32))).bind fun x130 => k14 x129 x130 else (some (v2 ||| (0 : Int32))).bind fun x129 => (some (v3 + (1 : Int32))).bind fun x130 => k14 x129 x130)
set_option maxRecDepth 100000 in
theorem vl9_could_115 {κ : Kx} (hc : CX κ RX9 cX9_could) (hr : RX κ ({ frames := 2, cells := 0, slots := 0, locals := 48 } : Room)) (hq : QX κ (some .int) 0 0) (hL : 7 = κ.2.2.2.2.1) (k14 : Int32 → Int32 → Option (Int32)) (h : AH) (v0 : Nat) (v1 : Int32) (hk14 : ∀ (v2 : Int32) (v3 : Int32), V κ (rI h) 0 0 14 [(0, .ref v0), (1, .int v1), (2, .int v2), (3, .int v3)] [] h (k14 v2 v3)) (v2 : Int32) (v3 : Int32) (v5 : Bool) : V κ (rI h) 0 0 115 [(0, .ref v0), (1, .int v1), (2, .int v2), (3, .int v3), (5, .int (bI v5))] [] h (f9_could_115 k14 h v0 v1 v2 v3 v5) := by
  have hn : ∀ i, i < 7 → i < κ.2.2.2.2.1 := fun i q => hL ▸ q
  unfold f9_could_115
  refine v_iload_n (i := 2) hc 2 rfl dX9_could_115 rfl ?_
  refine v_iload (i := 5) hc 4 rfl dX9_could_116 ?_
  refine v_ifb_eq hc 127 dX9_could_118 rfl ?_ ?_
  · refine v_iconst (x := (0 : Int32)) hc dX9_could_127 zi_0 ?_
    refine v_ior hc dX9_could_128 ?_
    refine v_nmI fun x129 => ?_
    refine v_istore_n (i := 2) (L' := [(2, .int x129), (0, .ref v0), (1, .int v1), (3, .int v3), (5, .int (bI v5))]) hc dX9_could_129 rfl (hn 2 (Nat.le_of_ble_eq_true rfl)) rfl ?_
    refine v_iincN (i := 3) (y := (1 : Int32)) (L' := fun z => [(3, .int z), (2, .int x129), (0, .ref v0), (1, .int v1), (5, .int (bI v5))]) hc 3 rfl dX9_could_130 zi_1 (hn 3 (Nat.le_of_ble_eq_true rfl)) (fun _ => rfl) fun x130 => ?_
    refine v_goto hc 14 dX9_could_133 rfl ?_
    refine v_sub (L' := [(0, .ref v0), (1, .int v1), (2, .int x129), (3, .int x130)]) [2, 3, 1, 0] rfl ?_
    exact hk14 x129 x130
  · refine v_iconst (x := (1 : Int32)) hc dX9_could_121 zi_1 ?_
    refine v_iload_n (i := 3) hc 3 rfl dX9_could_122 rfl ?_
    refine v_ishl hc dX9_could_123 ?_
    refine v_goto hc 128 dX9_could_124 rfl ?_
    refine v_ior hc dX9_could_128 ?_
    refine v_nmI fun x129 => ?_
    refine v_istore_n (i := 2) (L' := [(2, .int x129), (0, .ref v0), (1, .int v1), (3, .int v3), (5, .int (bI v5))]) hc dX9_could_129 rfl (hn 2 (Nat.le_of_ble_eq_true rfl)) rfl ?_
    refine v_iincN (i := 3) (y := (1 : Int32)) (L' := fun z => [(3, .int z), (2, .int x129), (0, .ref v0), (1, .int v1), (5, .int (bI v5))]) hc 3 rfl dX9_could_130 zi_1 (hn 3 (Nat.le_of_ble_eq_true rfl)) (fun _ => rfl) fun x130 => ?_
    refine v_goto hc 14 dX9_could_133 rfl ?_
    refine v_sub (L' := [(0, .ref v0), (1, .int v1), (2, .int x129), (3, .int x130)]) [2, 3, 1, 0] rfl ?_
    exact hk14 x129 x130
def f9_could_58 (k14 : Int32 → Int32 → Option (Int32)) (h : AH) (v0 : Nat) (v1 : Int32) (v2 : Int32) (v3 : Int32) (v4 : Int32) : Nat → Bool → Int32 → Option (Int32)
  | 0, _, _ => none
  | n + 1, v5, v6 => (fR 9 0 h v0).bind fun x61 => (aI 0 h x61 (5 : Int32)).bind fun x65 => (if x65 ≤ v6 then f9_could_115 k14 h v0 v1 v2 v3 v5 else (if v5 = true then (fR 9 0 h v0).bind fun x75 => (aI 0 h x75 ((2230 : Int32) + ((3 : Int32) * v6))).bind fun x86 => (if x86 = v1 then (f9_isHis h v0 v4 v6).bind fun x96 => (if x96 = true then (some (v6 + (1 : Int32))).bind fun x109 => f9_could_58 k14 h v0 v1 v2 v3 v4 n true x109 else (some (v6 + (1 : Int32))).bind fun x109 => f9_could_58 k14 h v0 v1 v2 v3 v4 n false x109) else (some (v6 + (1 : Int32))).bind fun x109 => f9_could_58 k14 h v0 v1 v2 v3 v4 n true x109) else f9_could_115 k14 h v0 v1 v2 v3 v5))
set_option maxRecDepth 100000 in
theorem vl9_could_58 {κ : Kx} (hc : CX κ RX9 cX9_could) (hr : RX κ ({ frames := 2, cells := 0, slots := 0, locals := 48 } : Room)) (hq : QX κ (some .int) 0 0) (hL : 7 = κ.2.2.2.2.1)  (k14 : Int32 → Int32 → Option (Int32)) (h : AH) (v0 : Nat) (v1 : Int32) (v2 : Int32) (v3 : Int32) (v4 : Int32) (hk14 : ∀ (v2 : Int32) (v3 : Int32), V κ (rI h) 0 0 14 [(0, .ref v0), (1, .int v1), (2, .int v2), (3, .int v3)] [] h (k14 v2 v3)) : ∀ n (v5 : Bool) (v6 : Int32), V κ (rI h) 0 0 58 [(0, .ref v0), (1, .int v1), (2, .int v2), (3, .int v3), (4, .int v4), (5, .int (bI v5)), (6, .int v6)] [] h (f9_could_58 k14 h v0 v1 v2 v3 v4 n v5 v6) := by
  have hn : ∀ i, i < 7 → i < κ.2.2.2.2.1 := fun i q => hL ▸ q
  intro n
  induction n with
  | zero => intros; exact v_none
  | succ n ih =>
    intro v5 v6
    rw [f9_could_58.eq_2]
    refine v_iload (i := 6) hc 6 rfl dX9_could_58 ?_
    refine v_aload_n (i := 0) hc 0 rfl dX9_could_60 rfl ?_
    refine v_getV hc kX9 0 (by decide) w_1131 rfl dX9_could_61 (gR rfl fun x61 => ?_)
    refine v_iconst (x := (5 : Int32)) hc dX9_could_64 zi_5 ?_
    refine v_iald hc dX9_could_65 fun x65 => ?_
    refine v_icmp_ge hc 115 dX9_could_66 rfl ?_ ?_
    · refine v_sub (L' := [(0, .ref v0), (1, .int v1), (2, .int v2), (3, .int v3), (5, .int (bI v5))]) [0, 1, 2, 3, 5] rfl ?_
      exact vl9_could_115 hc hr hq hL k14 h v0 v1 hk14 v2 v3 v5
    · refine v_iload (i := 5) hc 5 rfl dX9_could_69 ?_
      refine v_ifb_eq hc 115 dX9_could_71 rfl ?_ ?_
      · refine v_sub (L' := [(0, .ref v0), (1, .int v1), (2, .int v2), (3, .int v3), (5, .int (bI v5))]) [0, 1, 2, 3, 5] rfl ?_
        exact vl9_could_115 hc hr hq hL k14 h v0 v1 hk14 v2 v3 v5
      · refine v_aload_n (i := 0) hc 0 rfl dX9_could_74 rfl ?_
        refine v_getV hc kX9 0 (by decide) w_1131 rfl dX9_could_75 (gR rfl fun x75 => ?_)
        refine v_sipush (x := (2230 : Int32)) hc dX9_could_78 zs_2230 ?_
        refine v_iconst (x := (3 : Int32)) hc dX9_could_81 zi_3 ?_
        refine v_iload (i := 6) hc 6 rfl dX9_could_82 ?_
        refine v_imul hc dX9_could_84 ?_
        refine v_iadd hc dX9_could_85 ?_
        refine v_iald hc dX9_could_86 fun x86 => ?_
        refine v_iload_n (i := 1) hc 1 rfl dX9_could_87 rfl ?_
        refine v_icmp_ne hc 102 dX9_could_88 rfl ?_ ?_
        · refine v_iconst (x := (1 : Int32)) hc dX9_could_102 zi_1 ?_
          refine v_goto hc 107 dX9_could_103 rfl ?_
          refine v_istore (i := 5) (L' := [(5, .int (1 : Int32)), (0, .ref v0), (1, .int v1), (2, .int v2), (3, .int v3), (4, .int v4), (6, .int v6)]) hc dX9_could_107 (hn 5 (Nat.le_of_ble_eq_true rfl)) rfl ?_
          refine v_iincN (i := 6) (y := (1 : Int32)) (L' := fun z => [(6, .int z), (5, .int (1 : Int32)), (0, .ref v0), (1, .int v1), (2, .int v2), (3, .int v3), (4, .int v4)]) hc 6 rfl dX9_could_109 zi_1 (hn 6 (Nat.le_of_ble_eq_true rfl)) (fun _ => rfl) fun x109 => ?_
          refine v_goto hc 58 dX9_could_112 rfl ?_
          refine v_sub (L' := [(0, .ref v0), (1, .int v1), (2, .int v2), (3, .int v3), (4, .int v4), (5, .int (bI true)), (6, .int x109)]) [2, 3, 4, 5, 6, 1, 0] rfl ?_
          exact ih true x109
        · refine v_aload_n (i := 0) hc 0 rfl dX9_could_91 rfl ?_
          refine v_iload (i := 4) hc 4 rfl dX9_could_92 ?_
          refine v_iload (i := 6) hc 6 rfl dX9_could_94 ?_
          refine v_cB hc (m_V' (As := [.int v4, .int v6]) (b := v0) (rest := []) 2 hc hr (fun l D tys base => ct9_isHis l D tys base h v0 v4 v6) (fun x hx => ob9_isHis hx) rfl s9_isHis w_1594 rfl ⟨Nat.le_of_ble_eq_true rfl, Nat.le_of_ble_eq_true rfl⟩ ⟨Nat.le_of_ble_eq_true rfl, Nat.le_of_ble_eq_true rfl⟩ (Nat.le_of_ble_eq_true rfl) dX9_could_96) fun x96 => ?_
          refine v_ifb_eq hc 106 dX9_could_99 rfl ?_ ?_
          · refine v_iconst (x := (0 : Int32)) hc dX9_could_106 zi_0 ?_
            refine v_istore (i := 5) (L' := [(5, .int (0 : Int32)), (0, .ref v0), (1, .int v1), (2, .int v2), (3, .int v3), (4, .int v4), (6, .int v6)]) hc dX9_could_107 (hn 5 (Nat.le_of_ble_eq_true rfl)) rfl ?_
            refine v_iincN (i := 6) (y := (1 : Int32)) (L' := fun z => [(6, .int z), (5, .int (0 : Int32)), (0, .ref v0), (1, .int v1), (2, .int v2), (3, .int v3), (4, .int v4)]) hc 6 rfl dX9_could_109 zi_1 (hn 6 (Nat.le_of_ble_eq_true rfl)) (fun _ => rfl) fun x109 => ?_
            refine v_goto hc 58 dX9_could_112 rfl ?_
            refine v_sub (L' := [(0, .ref v0), (1, .int v1), (2, .int v2), (3, .int v3), (4, .int v4), (5, .int (bI false)), (6, .int x109)]) [2, 3, 4, 5, 6, 1, 0] rfl ?_
            exact ih false x109
          · refine v_iconst (x := (1 : Int32)) hc dX9_could_102 zi_1 ?_
            refine v_goto hc 107 dX9_could_103 rfl ?_
            refine v_istore (i := 5) (L' := [(5, .int (1 : Int32)), (0, .ref v0), (1, .int v1), (2, .int v2), (3, .int v3), (4, .int v4), (6, .int v6)]) hc dX9_could_107 (hn 5 (Nat.le_of_ble_eq_true rfl)) rfl ?_
            refine v_iincN (i := 6) (y := (1 : Int32)) (L' := fun z => [(6, .int z), (5, .int (1 : Int32)), (0, .ref v0), (1, .int v1), (2, .int v2), (3, .int v3), (4, .int v4)]) hc 6 rfl dX9_could_109 zi_1 (hn 6 (Nat.le_of_ble_eq_true rfl)) (fun _ => rfl) fun x109 => ?_
            refine v_goto hc 58 dX9_could_112 rfl ?_
            refine v_sub (L' := [(0, .ref v0), (1, .int v1), (2, .int v2), (3, .int v3), (4, .int v4), (5, .int (bI true)), (6, .int x109)]) [2, 3, 4, 5, 6, 1, 0] rfl ?_
            exact ih true x109
def f9_could_14 (h : AH) (v0 : Nat) (v1 : Int32) : Nat → Int32 → Int32 → Option (Int32)
  | 0, _, _ => none
  | n + 1, v2, v3 => (fI 9 15 h v0).bind fun x16 => (if x16 ≤ v3 then some v2 else (some ((8 : Int32) + v3)).bind fun x26 => (f9_pieceCell h v0 v1 (6 : Int32)).bind fun x32 => (fR 9 13 h v0).bind fun x36 => (aI 0 h x36 x26).bind fun x41 => (if (x32 &&& (x41 ^^^ (-1 : Int32))) = 0 then f9_could_58 (fun v2 v3 => f9_could_14 h v0 v1 n v2 v3) h v0 v1 v2 v3 x26 FU true (0 : Int32) else f9_could_58 (fun v2 v3 => f9_could_14 h v0 v1 n v2 v3) h v0 v1 v2 v3 x26 FU false (0 : Int32)))
set_option maxRecDepth 100000 in
theorem vl9_could_14 {κ : Kx} (hc : CX κ RX9 cX9_could) (hr : RX κ ({ frames := 2, cells := 0, slots := 0, locals := 48 } : Room)) (hq : QX κ (some .int) 0 0) (hL : 7 = κ.2.2.2.2.1)  (h : AH) (v0 : Nat) (v1 : Int32) : ∀ n (v2 : Int32) (v3 : Int32), V κ (rI h) 0 0 14 [(0, .ref v0), (1, .int v1), (2, .int v2), (3, .int v3)] [] h (f9_could_14 h v0 v1 n v2 v3) := by
  have hn : ∀ i, i < 7 → i < κ.2.2.2.2.1 := fun i q => hL ▸ q
  intro n
  induction n with
  | zero => intros; exact v_none
  | succ n ih =>
    intro v2 v3
    rw [f9_could_14.eq_2]
    refine v_iload_n (i := 3) hc 3 rfl dX9_could_14 rfl ?_
    refine v_aload_n (i := 0) hc 0 rfl dX9_could_15 rfl ?_
    refine v_getV hc kX9 15 (by decide) w_1146 rfl dX9_could_16 (gI rfl fun x16 => ?_)
    refine v_icmp_ge hc 136 dX9_could_19 rfl ?_ ?_
    · refine v_iload_n (i := 2) hc 2 rfl dX9_could_136 rfl ?_
      exact v_iret hc hq rfl rfl (Nat.le_of_ble_eq_true rfl) (Nat.le_of_ble_eq_true rfl) rfl dX9_could_137
    · refine v_bipush (x := (8 : Int32)) hc dX9_could_22 zb_8 ?_
      refine v_iload_n (i := 3) hc 3 rfl dX9_could_24 rfl ?_
      refine v_iadd hc dX9_could_25 ?_
      refine v_nmI fun x26 => ?_
      refine v_istore (i := 4) (L' := [(4, .int x26), (0, .ref v0), (1, .int v1), (2, .int v2), (3, .int v3)]) hc dX9_could_26 (hn 4 (Nat.le_of_ble_eq_true rfl)) rfl ?_
      refine v_aload_n (i := 0) hc 1 rfl dX9_could_28 rfl ?_
      refine v_iload_n (i := 1) hc 2 rfl dX9_could_29 rfl ?_
      refine v_bipush (x := (6 : Int32)) hc dX9_could_30 zb_6 ?_
      refine v_cI hc (m_V' (As := [.int v1, .int (6 : Int32)]) (b := v0) (rest := []) 2 hc hr (fun l D tys base => ct9_pieceCell l D tys base h v0 v1 (6 : Int32)) (fun x hx => ob9_pieceCell hx) rfl s9_pieceCell w_1327 rfl ⟨Nat.le_of_ble_eq_true rfl, Nat.le_of_ble_eq_true rfl⟩ ⟨Nat.le_of_ble_eq_true rfl, Nat.le_of_ble_eq_true rfl⟩ (Nat.le_of_ble_eq_true rfl) dX9_could_32) fun x32 => ?_
      refine v_aload_n (i := 0) hc 1 rfl dX9_could_35 rfl ?_
      refine v_getV hc kX9 13 (by decide) w_1144 rfl dX9_could_36 (gR rfl fun x36 => ?_)
      refine v_iload (i := 4) hc 0 rfl dX9_could_39 ?_
      refine v_iald hc dX9_could_41 fun x41 => ?_
      refine v_iconst (x := (-1 : Int32)) hc dX9_could_42 zi_m1 ?_
      refine v_ixor hc dX9_could_43 ?_
      refine v_iand hc dX9_could_44 ?_
      refine v_if_ne hc 52 dX9_could_45 rfl ?_ ?_
      · refine v_iconst (x := (0 : Int32)) hc dX9_could_52 zi_0 ?_
        refine v_istore (i := 5) (L' := [(5, .int (0 : Int32)), (4, .int x26), (0, .ref v0), (1, .int v1), (2, .int v2), (3, .int v3)]) hc dX9_could_53 (hn 5 (Nat.le_of_ble_eq_true rfl)) rfl ?_
        refine v_iconst (x := (0 : Int32)) hc dX9_could_55 zi_0 ?_
        refine v_istore (i := 6) (L' := [(6, .int (0 : Int32)), (5, .int (0 : Int32)), (4, .int x26), (0, .ref v0), (1, .int v1), (2, .int v2), (3, .int v3)]) hc dX9_could_56 (hn 6 (Nat.le_of_ble_eq_true rfl)) rfl ?_
        refine v_sub (L' := [(0, .ref v0), (1, .int v1), (2, .int v2), (3, .int v3), (4, .int x26), (5, .int (bI false)), (6, .int (0 : Int32))]) [3, 4, 5, 6, 2, 1, 0] rfl ?_
        exact vl9_could_58 hc hr hq hL (fun v2 v3 => f9_could_14 h v0 v1 n v2 v3) h v0 v1 v2 v3 x26 ih FU false (0 : Int32)
      · refine v_iconst (x := (1 : Int32)) hc dX9_could_48 zi_1 ?_
        refine v_goto hc 53 dX9_could_49 rfl ?_
        refine v_istore (i := 5) (L' := [(5, .int (1 : Int32)), (4, .int x26), (0, .ref v0), (1, .int v1), (2, .int v2), (3, .int v3)]) hc dX9_could_53 (hn 5 (Nat.le_of_ble_eq_true rfl)) rfl ?_
        refine v_iconst (x := (0 : Int32)) hc dX9_could_55 zi_0 ?_
        refine v_istore (i := 6) (L' := [(6, .int (0 : Int32)), (5, .int (1 : Int32)), (4, .int x26), (0, .ref v0), (1, .int v1), (2, .int v2), (3, .int v3)]) hc dX9_could_56 (hn 6 (Nat.le_of_ble_eq_true rfl)) rfl ?_
        refine v_sub (L' := [(0, .ref v0), (1, .int v1), (2, .int v2), (3, .int v3), (4, .int x26), (5, .int (bI true)), (6, .int (0 : Int32))]) [3, 4, 5, 6, 2, 1, 0] rfl ?_
        exact vl9_could_58 hc hr hq hL (fun v2 v3 => f9_could_14 h v0 v1 n v2 v3) h v0 v1 v2 v3 x26 ih FU true (0 : Int32)
def f9_could (h : AH) (this : Nat) (p0 : Int32) : Option (Int32) := (hObj 9 h this).bind fun _ => (f9_isPiece h this p0).bind fun x2 => (if x2 = true then f9_could_14 h this p0 FU (0 : Int32) (0 : Int32) else some (-1 : Int32))
theorem ob9_could {h : AH} {this : Nat} {p0 : Int32} {x : Int32} (e : f9_could h this p0 = some x) : ∃ fs, hObj 9 h this = some fs := by
  unfold f9_could at e
  obtain ⟨fs, h1, -⟩ := bd e
  exact ⟨fs, h1⟩
set_option maxRecDepth 100000 in
theorem ct9_could (l : Launch) (D : va_G) (tys : Tys) (base : Nat) (h : AH) (this : Nat) (p0 : Int32) : Ct l D tys base yX9_could cX9_could 7 (some .int) 2 48 0 0 [.ref this, .int p0] h (rI h) (f9_could h this p0) := by
  refine Ct.intro (own := RX9) (L := [(0, .ref this), (1, .int p0)]) rfl (by decide) rfl (Nat.le_of_ble_eq_true rfl) fun κ hc hr hq hi hL => ?_
  have hn : ∀ i, i < 7 → i < κ.2.2.2.2.1 := fun i q => hL ▸ q
  unfold f9_could
  refine v_obj ?_
  refine v_aload_n (i := 0) hc 0 rfl dX9_could_0 rfl ?_
  refine v_iload_n (i := 1) hc 1 rfl dX9_could_1 rfl ?_
  refine v_cB hc (m_V' (As := [.int p0]) (b := this) (rest := []) 1 hc hr (fun l D tys base => ct9_isPiece l D tys base h this p0) (fun x hx => ob9_isPiece hx) rfl s9_isPiece w_1286 rfl ⟨Nat.le_of_ble_eq_true rfl, Nat.le_of_ble_eq_true rfl⟩ ⟨Nat.le_of_ble_eq_true rfl, Nat.le_of_ble_eq_true rfl⟩ (Nat.le_of_ble_eq_true rfl) dX9_could_2) fun x2 => ?_
  refine v_ifb_ne hc 10 dX9_could_5 rfl ?_ ?_
  · refine v_iconst (x := (0 : Int32)) hc dX9_could_10 zi_0 ?_
    refine v_istore_n (i := 2) (L' := [(2, .int (0 : Int32)), (0, .ref this), (1, .int p0)]) hc dX9_could_11 rfl (hn 2 (Nat.le_of_ble_eq_true rfl)) rfl ?_
    refine v_iconst (x := (0 : Int32)) hc dX9_could_12 zi_0 ?_
    refine v_istore_n (i := 3) (L' := [(3, .int (0 : Int32)), (2, .int (0 : Int32)), (0, .ref this), (1, .int p0)]) hc dX9_could_13 rfl (hn 3 (Nat.le_of_ble_eq_true rfl)) rfl ?_
    refine v_sub (L' := [(0, .ref this), (1, .int p0), (2, .int (0 : Int32)), (3, .int (0 : Int32))]) [2, 3, 1, 0] rfl ?_
    exact vl9_could_14 hc hr hq hL h this p0 FU (0 : Int32) (0 : Int32)
  · refine v_iconst (x := (-1 : Int32)) hc dX9_could_8 zi_m1 ?_
    exact v_iret hc hq rfl rfl (Nat.le_of_ble_eq_true rfl) (Nat.le_of_ble_eq_true rfl) rfl dX9_could_9
theorem s9_could : YV yX9_could RX9 cX9_could 7 (some .int) 1 := ⟨w_1593, w_1591, w_1592, w_118, rfl, by decide +kernel, by decide +kernel, by decide +kernel⟩
def f9_isMaker (h : AH) (this : Nat) (p0 : Int32) : Option (Bool) := (hObj 9 h this).bind fun _ => (if p0 < 0 then some false else (fI 9 15 h this).bind fun x6 => (if x6 ≤ p0 then some false else some true))
theorem ob9_isMaker {h : AH} {this : Nat} {p0 : Int32} {x : Bool} (e : f9_isMaker h this p0 = some x) : ∃ fs, hObj 9 h this = some fs := by
  unfold f9_isMaker at e
  obtain ⟨fs, h1, -⟩ := bd e
  exact ⟨fs, h1⟩
set_option maxRecDepth 100000 in
theorem ct9_isMaker (l : Launch) (D : va_G) (tys : Tys) (base : Nat) (h : AH) (this : Nat) (p0 : Int32) : Ct l D tys base yX9_isMaker cX9_isMaker 2 (some .boolean) 0 0 0 0 [.ref this, .int p0] h (rB h) (f9_isMaker h this p0) := by
  refine Ct.intro (own := RX9) (L := [(0, .ref this), (1, .int p0)]) rfl (by decide) rfl (Nat.le_of_ble_eq_true rfl) fun κ hc hr hq hi hL => ?_
  have hn : ∀ i, i < 2 → i < κ.2.2.2.2.1 := fun i q => hL ▸ q
  unfold f9_isMaker
  refine v_obj ?_
  refine v_iload_n (i := 1) hc 1 rfl dX9_isMaker_0 rfl ?_
  refine v_if_lt hc 16 dX9_isMaker_1 rfl ?_ ?_
  · refine v_iconst (x := (0 : Int32)) hc dX9_isMaker_16 zi_0 ?_
    exact v_iret (v := bI false) hc hq rfl (nar_b false) (Nat.le_of_ble_eq_true rfl) (Nat.le_of_ble_eq_true rfl) rfl dX9_isMaker_17
  · refine v_iload_n (i := 1) hc 1 rfl dX9_isMaker_4 rfl ?_
    refine v_aload_n (i := 0) hc 0 rfl dX9_isMaker_5 rfl ?_
    refine v_getV hc kX9 15 (by decide) w_1146 rfl dX9_isMaker_6 (gI rfl fun x6 => ?_)
    refine v_icmp_ge hc 16 dX9_isMaker_9 rfl ?_ ?_
    · refine v_iconst (x := (0 : Int32)) hc dX9_isMaker_16 zi_0 ?_
      exact v_iret (v := bI false) hc hq rfl (nar_b false) (Nat.le_of_ble_eq_true rfl) (Nat.le_of_ble_eq_true rfl) rfl dX9_isMaker_17
    · refine v_iconst (x := (1 : Int32)) hc dX9_isMaker_12 zi_1 ?_
      refine v_goto hc 17 dX9_isMaker_13 rfl ?_
      exact v_iret (v := bI true) hc hq rfl (nar_b true) (Nat.le_of_ble_eq_true rfl) (Nat.le_of_ble_eq_true rfl) rfl dX9_isMaker_17
theorem s9_isMaker : YV yX9_isMaker RX9 cX9_isMaker 2 (some .boolean) 1 := ⟨w_1605, w_1604, w_100, w_118, rfl, by decide +kernel, by decide +kernel, by decide +kernel⟩
def f9_outrun_44 (k28 : Int32 → Option (Int32)) (h : AH) (v0 : Nat) (v1 : Int32) (v2 : Int32) (v3 : Int32) : Nat → Int32 → Int32 → Option (Int32)
  | 0, _, _ => none
  | n + 1, v4, v5 => (fR 9 0 h v0).bind fun x47 => (aI 0 h x47 (4 : Int32)).bind fun x51 => (if x51 ≤ v5 then (fR 9 9 h v0).bind fun x105 => (aI 0 h x105 ((8 : Int32) + v1)).bind fun x112 => (if v4 ≤ (x112 * ((v3 - v2) + (1 : Int32))) then (some (v3 + (1 : Int32))).bind fun x124 => k28 x124 else some v3) else (f9_pieceCell h v0 v5 (0 : Int32)).bind fun x59 => (if x59 = 0 then (f9_pieceCell h v0 v5 (8 : Int32)).bind fun x70 => (f9_in h x70.toInt64 v2.toInt64 v3.toInt64).bind fun x78 => (if x78 = true then (f9_pagesOf h v0 v5 (0 : Int32)).bind fun x90 => (some (v4 + x90)).bind fun x94 => (some (v5 + (1 : Int32))).bind fun x96 => f9_outrun_44 k28 h v0 v1 v2 v3 n x94 x96 else (some (v5 + (1 : Int32))).bind fun x96 => f9_outrun_44 k28 h v0 v1 v2 v3 n v4 x96) else (some (v5 + (1 : Int32))).bind fun x96 => f9_outrun_44 k28 h v0 v1 v2 v3 n v4 x96))
set_option maxRecDepth 100000 in
theorem vl9_outrun_44 {κ : Kx} (hc : CX κ RX9 cX9_outrun) (hr : RX κ ({ frames := 5, cells := 0, slots := 0, locals := 113 } : Room)) (hq : QX κ (some .int) 0 0) (hL : 6 = κ.2.2.2.2.1)  (k28 : Int32 → Option (Int32)) (h : AH) (v0 : Nat) (v1 : Int32) (v2 : Int32) (v3 : Int32) (hk28 : ∀ (v3 : Int32), V κ (rI h) 0 0 28 [(0, .ref v0), (1, .int v1), (2, .int v2), (3, .int v3)] [] h (k28 v3)) : ∀ n (v4 : Int32) (v5 : Int32), V κ (rI h) 0 0 44 [(0, .ref v0), (1, .int v1), (2, .int v2), (3, .int v3), (4, .int v4), (5, .int v5)] [] h (f9_outrun_44 k28 h v0 v1 v2 v3 n v4 v5) := by
  have hn : ∀ i, i < 6 → i < κ.2.2.2.2.1 := fun i q => hL ▸ q
  intro n
  induction n with
  | zero => intros; exact v_none
  | succ n ih =>
    intro v4 v5
    rw [f9_outrun_44.eq_2]
    refine v_iload (i := 5) hc 5 rfl dX9_outrun_44 ?_
    refine v_aload_n (i := 0) hc 0 rfl dX9_outrun_46 rfl ?_
    refine v_getV hc kX9 0 (by decide) w_1131 rfl dX9_outrun_47 (gR rfl fun x47 => ?_)
    refine v_iconst (x := (4 : Int32)) hc dX9_outrun_50 zi_4 ?_
    refine v_iald hc dX9_outrun_51 fun x51 => ?_
    refine v_icmp_ge hc 102 dX9_outrun_52 rfl ?_ ?_
    · refine v_iload (i := 4) hc 4 rfl dX9_outrun_102 ?_
      refine v_aload_n (i := 0) hc 0 rfl dX9_outrun_104 rfl ?_
      refine v_getV hc kX9 9 (by decide) w_1140 rfl dX9_outrun_105 (gR rfl fun x105 => ?_)
      refine v_bipush (x := (8 : Int32)) hc dX9_outrun_108 zb_8 ?_
      refine v_iload_n (i := 1) hc 1 rfl dX9_outrun_110 rfl ?_
      refine v_iadd hc dX9_outrun_111 ?_
      refine v_iald hc dX9_outrun_112 fun x112 => ?_
      refine v_iload_n (i := 3) hc 3 rfl dX9_outrun_113 rfl ?_
      refine v_iload_n (i := 2) hc 2 rfl dX9_outrun_114 rfl ?_
      refine v_isub hc dX9_outrun_115 ?_
      refine v_iconst (x := (1 : Int32)) hc dX9_outrun_116 zi_1 ?_
      refine v_iadd hc dX9_outrun_117 ?_
      refine v_imul hc dX9_outrun_118 ?_
      refine v_icmp_le hc 124 dX9_outrun_119 rfl ?_ ?_
      · refine v_iincN (i := 3) (y := (1 : Int32)) (L' := fun z => [(3, .int z), (0, .ref v0), (1, .int v1), (2, .int v2), (4, .int v4), (5, .int v5)]) hc 3 rfl dX9_outrun_124 zi_1 (hn 3 (Nat.le_of_ble_eq_true rfl)) (fun _ => rfl) fun x124 => ?_
        refine v_goto hc 28 dX9_outrun_127 rfl ?_
        refine v_sub (L' := [(0, .ref v0), (1, .int v1), (2, .int v2), (3, .int x124)]) [1, 2, 3, 0] rfl ?_
        exact hk28 x124
      · refine v_iload_n (i := 3) hc 3 rfl dX9_outrun_122 rfl ?_
        exact v_iret hc hq rfl rfl (Nat.le_of_ble_eq_true rfl) (Nat.le_of_ble_eq_true rfl) rfl dX9_outrun_123
    · refine v_aload_n (i := 0) hc 0 rfl dX9_outrun_55 rfl ?_
      refine v_iload (i := 5) hc 5 rfl dX9_outrun_56 ?_
      refine v_iconst (x := (0 : Int32)) hc dX9_outrun_58 zi_0 ?_
      refine v_cI hc (m_V' (As := [.int v5, .int (0 : Int32)]) (b := v0) (rest := []) 2 hc hr (fun l D tys base => ct9_pieceCell l D tys base h v0 v5 (0 : Int32)) (fun x hx => ob9_pieceCell hx) rfl s9_pieceCell w_1327 rfl ⟨Nat.le_of_ble_eq_true rfl, Nat.le_of_ble_eq_true rfl⟩ ⟨Nat.le_of_ble_eq_true rfl, Nat.le_of_ble_eq_true rfl⟩ (Nat.le_of_ble_eq_true rfl) dX9_outrun_59) fun x59 => ?_
      refine v_if_ne hc 96 dX9_outrun_62 rfl ?_ ?_
      · refine v_iincN (i := 5) (y := (1 : Int32)) (L' := fun z => [(5, .int z), (0, .ref v0), (1, .int v1), (2, .int v2), (3, .int v3), (4, .int v4)]) hc 5 rfl dX9_outrun_96 zi_1 (hn 5 (Nat.le_of_ble_eq_true rfl)) (fun _ => rfl) fun x96 => ?_
        refine v_goto hc 44 dX9_outrun_99 rfl ?_
        refine v_sub (L' := [(0, .ref v0), (1, .int v1), (2, .int v2), (3, .int v3), (4, .int v4), (5, .int x96)]) [1, 2, 3, 4, 5, 0] rfl ?_
        exact ih v4 x96
      · refine v_aload_n (i := 0) hc 0 rfl dX9_outrun_65 rfl ?_
        refine v_iload (i := 5) hc 5 rfl dX9_outrun_66 ?_
        refine v_bipush (x := (8 : Int32)) hc dX9_outrun_68 zb_8 ?_
        refine v_cI hc (m_V' (As := [.int v5, .int (8 : Int32)]) (b := v0) (rest := []) 2 hc hr (fun l D tys base => ct9_pieceCell l D tys base h v0 v5 (8 : Int32)) (fun x hx => ob9_pieceCell hx) rfl s9_pieceCell w_1327 rfl ⟨Nat.le_of_ble_eq_true rfl, Nat.le_of_ble_eq_true rfl⟩ ⟨Nat.le_of_ble_eq_true rfl, Nat.le_of_ble_eq_true rfl⟩ (Nat.le_of_ble_eq_true rfl) dX9_outrun_70) fun x70 => ?_
        refine v_i2l hc dX9_outrun_73 ?_
        refine v_iload_n (i := 2) hc 2 rfl dX9_outrun_74 rfl ?_
        refine v_i2l hc dX9_outrun_75 ?_
        refine v_iload_n (i := 3) hc 3 rfl dX9_outrun_76 rfl ?_
        refine v_i2l hc dX9_outrun_77 ?_
        refine v_cB hc (m_S' (As := [.long x70.toInt64, .long v2.toInt64, .long v3.toInt64]) (rest := []) 3 hc hr (fun l D tys base => ct9_in l D tys base h x70.toInt64 v2.toInt64 v3.toInt64) s9_in w_1246 rfl ⟨Nat.le_of_ble_eq_true rfl, Nat.le_of_ble_eq_true rfl⟩ ⟨Nat.le_of_ble_eq_true rfl, Nat.le_of_ble_eq_true rfl⟩ (Nat.le_of_ble_eq_true rfl) dX9_outrun_78) fun x78 => ?_
        refine v_ifb_eq hc 96 dX9_outrun_81 rfl ?_ ?_
        · refine v_iincN (i := 5) (y := (1 : Int32)) (L' := fun z => [(5, .int z), (0, .ref v0), (1, .int v1), (2, .int v2), (3, .int v3), (4, .int v4)]) hc 5 rfl dX9_outrun_96 zi_1 (hn 5 (Nat.le_of_ble_eq_true rfl)) (fun _ => rfl) fun x96 => ?_
          refine v_goto hc 44 dX9_outrun_99 rfl ?_
          refine v_sub (L' := [(0, .ref v0), (1, .int v1), (2, .int v2), (3, .int v3), (4, .int v4), (5, .int x96)]) [1, 2, 3, 4, 5, 0] rfl ?_
          exact ih v4 x96
        · refine v_iload (i := 4) hc 4 rfl dX9_outrun_84 ?_
          refine v_aload_n (i := 0) hc 0 rfl dX9_outrun_86 rfl ?_
          refine v_iload (i := 5) hc 5 rfl dX9_outrun_87 ?_
          refine v_iconst (x := (0 : Int32)) hc dX9_outrun_89 zi_0 ?_
          refine v_cI hc (m_V' (As := [.int v5, .int (0 : Int32)]) (b := v0) (rest := [.int v4]) 2 hc hr (fun l D tys base => ct9_pagesOf l D tys base h v0 v5 (0 : Int32)) (fun x hx => ob9_pagesOf hx) rfl s9_pagesOf w_1303 rfl ⟨Nat.le_of_ble_eq_true rfl, Nat.le_of_ble_eq_true rfl⟩ ⟨Nat.le_of_ble_eq_true rfl, Nat.le_of_ble_eq_true rfl⟩ (Nat.le_of_ble_eq_true rfl) dX9_outrun_90) fun x90 => ?_
          refine v_iadd hc dX9_outrun_93 ?_
          refine v_nmI fun x94 => ?_
          refine v_istore (i := 4) (L' := [(4, .int x94), (0, .ref v0), (1, .int v1), (2, .int v2), (3, .int v3), (5, .int v5)]) hc dX9_outrun_94 (hn 4 (Nat.le_of_ble_eq_true rfl)) rfl ?_
          refine v_iincN (i := 5) (y := (1 : Int32)) (L' := fun z => [(5, .int z), (4, .int x94), (0, .ref v0), (1, .int v1), (2, .int v2), (3, .int v3)]) hc 5 rfl dX9_outrun_96 zi_1 (hn 5 (Nat.le_of_ble_eq_true rfl)) (fun _ => rfl) fun x96 => ?_
          refine v_goto hc 44 dX9_outrun_99 rfl ?_
          refine v_sub (L' := [(0, .ref v0), (1, .int v1), (2, .int v2), (3, .int v3), (4, .int x94), (5, .int x96)]) [2, 3, 4, 5, 1, 0] rfl ?_
          exact ih x94 x96
def f9_outrun_28 (h : AH) (v0 : Nat) (v1 : Int32) (v2 : Int32) : Nat → Int32 → Option (Int32)
  | 0, _ => none
  | n + 1, v3 => (fR 9 0 h v0).bind fun x30 => (aI 0 h x30 (0 : Int32)).bind fun x34 => (if x34 < v3 then some (-2 : Int32) else f9_outrun_44 (fun v3 => f9_outrun_28 h v0 v1 v2 n v3) h v0 v1 v2 v3 FU (0 : Int32) (0 : Int32))
set_option maxRecDepth 100000 in
theorem vl9_outrun_28 {κ : Kx} (hc : CX κ RX9 cX9_outrun) (hr : RX κ ({ frames := 5, cells := 0, slots := 0, locals := 113 } : Room)) (hq : QX κ (some .int) 0 0) (hL : 6 = κ.2.2.2.2.1)  (h : AH) (v0 : Nat) (v1 : Int32) (v2 : Int32) : ∀ n (v3 : Int32), V κ (rI h) 0 0 28 [(0, .ref v0), (1, .int v1), (2, .int v2), (3, .int v3)] [] h (f9_outrun_28 h v0 v1 v2 n v3) := by
  have hn : ∀ i, i < 6 → i < κ.2.2.2.2.1 := fun i q => hL ▸ q
  intro n
  induction n with
  | zero => intros; exact v_none
  | succ n ih =>
    intro v3
    rw [f9_outrun_28.eq_2]
    refine v_iload_n (i := 3) hc 3 rfl dX9_outrun_28 rfl ?_
    refine v_aload_n (i := 0) hc 0 rfl dX9_outrun_29 rfl ?_
    refine v_getV hc kX9 0 (by decide) w_1131 rfl dX9_outrun_30 (gR rfl fun x30 => ?_)
    refine v_iconst (x := (0 : Int32)) hc dX9_outrun_33 zi_0 ?_
    refine v_iald hc dX9_outrun_34 fun x34 => ?_
    refine v_icmp_gt hc 130 dX9_outrun_35 rfl ?_ ?_
    · refine v_bipush (x := (-2 : Int32)) hc dX9_outrun_130 zb_m2 ?_
      exact v_iret hc hq rfl rfl (Nat.le_of_ble_eq_true rfl) (Nat.le_of_ble_eq_true rfl) rfl dX9_outrun_132
    · refine v_iconst (x := (0 : Int32)) hc dX9_outrun_38 zi_0 ?_
      refine v_istore (i := 4) (L' := [(4, .int (0 : Int32)), (0, .ref v0), (1, .int v1), (2, .int v2), (3, .int v3)]) hc dX9_outrun_39 (hn 4 (Nat.le_of_ble_eq_true rfl)) rfl ?_
      refine v_iconst (x := (0 : Int32)) hc dX9_outrun_41 zi_0 ?_
      refine v_istore (i := 5) (L' := [(5, .int (0 : Int32)), (4, .int (0 : Int32)), (0, .ref v0), (1, .int v1), (2, .int v2), (3, .int v3)]) hc dX9_outrun_42 (hn 5 (Nat.le_of_ble_eq_true rfl)) rfl ?_
      refine v_sub (L' := [(0, .ref v0), (1, .int v1), (2, .int v2), (3, .int v3), (4, .int (0 : Int32)), (5, .int (0 : Int32))]) [2, 3, 4, 5, 1, 0] rfl ?_
      exact vl9_outrun_44 hc hr hq hL (fun v3 => f9_outrun_28 h v0 v1 v2 n v3) h v0 v1 v2 v3 ih FU (0 : Int32) (0 : Int32)
def f9_outrun (h : AH) (this : Nat) (p0 : Int32) (p1 : Int32) : Option (Int32) := (hObj 9 h this).bind fun _ => (f9_isMaker h this p0).bind fun x2 => (if x2 = true then (fR 9 0 h this).bind fun x12 => (aI 0 h x12 (0 : Int32)).bind fun x16 => (f9_in h p1.toInt64 (0 : Int64) x16.toInt64).bind fun x18 => (if x18 = true then f9_outrun_28 h this p0 p1 FU p1 else some (-1 : Int32)) else some (-1 : Int32))
theorem ob9_outrun {h : AH} {this : Nat} {p0 : Int32} {p1 : Int32} {x : Int32} (e : f9_outrun h this p0 p1 = some x) : ∃ fs, hObj 9 h this = some fs := by
  unfold f9_outrun at e
  obtain ⟨fs, h1, -⟩ := bd e
  exact ⟨fs, h1⟩
set_option maxRecDepth 100000 in
theorem ct9_outrun (l : Launch) (D : va_G) (tys : Tys) (base : Nat) (h : AH) (this : Nat) (p0 : Int32) (p1 : Int32) : Ct l D tys base yX9_outrun cX9_outrun 6 (some .int) 5 113 0 0 [.ref this, .int p0, .int p1] h (rI h) (f9_outrun h this p0 p1) := by
  refine Ct.intro (own := RX9) (L := [(0, .ref this), (1, .int p0), (2, .int p1)]) rfl (by decide) rfl (Nat.le_of_ble_eq_true rfl) fun κ hc hr hq hi hL => ?_
  have hn : ∀ i, i < 6 → i < κ.2.2.2.2.1 := fun i q => hL ▸ q
  unfold f9_outrun
  refine v_obj ?_
  refine v_aload_n (i := 0) hc 0 rfl dX9_outrun_0 rfl ?_
  refine v_iload_n (i := 1) hc 1 rfl dX9_outrun_1 rfl ?_
  refine v_cB hc (m_V' (As := [.int p0]) (b := this) (rest := []) 1 hc hr (fun l D tys base => ct9_isMaker l D tys base h this p0) (fun x hx => ob9_isMaker hx) rfl s9_isMaker w_1602 rfl ⟨Nat.le_of_ble_eq_true rfl, Nat.le_of_ble_eq_true rfl⟩ ⟨Nat.le_of_ble_eq_true rfl, Nat.le_of_ble_eq_true rfl⟩ (Nat.le_of_ble_eq_true rfl) dX9_outrun_2) fun x2 => ?_
  refine v_ifb_eq hc 24 dX9_outrun_5 rfl ?_ ?_
  · refine v_iconst (x := (-1 : Int32)) hc dX9_outrun_24 zi_m1 ?_
    exact v_iret hc hq rfl rfl (Nat.le_of_ble_eq_true rfl) (Nat.le_of_ble_eq_true rfl) rfl dX9_outrun_25
  · refine v_iload_n (i := 2) hc 2 rfl dX9_outrun_8 rfl ?_
    refine v_i2l hc dX9_outrun_9 ?_
    refine v_lconst (x := (0 : Int64)) hc dX9_outrun_10 (by decide) ?_
    refine v_aload_n (i := 0) hc 0 rfl dX9_outrun_11 rfl ?_
    refine v_getV hc kX9 0 (by decide) w_1131 rfl dX9_outrun_12 (gR rfl fun x12 => ?_)
    refine v_iconst (x := (0 : Int32)) hc dX9_outrun_15 zi_0 ?_
    refine v_iald hc dX9_outrun_16 fun x16 => ?_
    refine v_i2l hc dX9_outrun_17 ?_
    refine v_cB hc (m_S' (As := [.long p1.toInt64, .long (0 : Int64), .long x16.toInt64]) (rest := []) 3 hc hr (fun l D tys base => ct9_in l D tys base h p1.toInt64 (0 : Int64) x16.toInt64) s9_in w_1246 rfl ⟨Nat.le_of_ble_eq_true rfl, Nat.le_of_ble_eq_true rfl⟩ ⟨Nat.le_of_ble_eq_true rfl, Nat.le_of_ble_eq_true rfl⟩ (Nat.le_of_ble_eq_true rfl) dX9_outrun_18) fun x18 => ?_
    refine v_ifb_ne hc 26 dX9_outrun_21 rfl ?_ ?_
    · refine v_iload_n (i := 2) hc 2 rfl dX9_outrun_26 rfl ?_
      refine v_istore_n (i := 3) (L' := [(3, .int p1), (0, .ref this), (1, .int p0), (2, .int p1)]) hc dX9_outrun_27 rfl (hn 3 (Nat.le_of_ble_eq_true rfl)) rfl ?_
      refine v_sub (L' := [(0, .ref this), (1, .int p0), (2, .int p1), (3, .int p1)]) [1, 2, 3, 0] rfl ?_
      exact vl9_outrun_28 hc hr hq hL h this p0 p1 FU p1
    · refine v_iconst (x := (-1 : Int32)) hc dX9_outrun_24 zi_m1 ?_
      exact v_iret hc hq rfl rfl (Nat.le_of_ble_eq_true rfl) (Nat.le_of_ble_eq_true rfl) rfl dX9_outrun_25
theorem s9_outrun : YV yX9_outrun RX9 cX9_outrun 6 (some .int) 2 := ⟨w_1601, w_1599, w_1600, w_118, rfl, by decide +kernel, by decide +kernel, by decide +kernel⟩
def f9_grows_158 (k82 : Int32 → Int32 → Option (Int32 × AH)) (k91 : Int32 → Int32 → Option (Int32 × AH)) (h : AH) (v0 : Nat) (v1 : Int32) (v4 : Int32) (v5 : Int32) (s0 : Int32) (s1 : Bool) : Option (Int32 × AH) := (fR 9 28 h v0).bind fun x159 => (aI 0 h x159 v4).bind fun x164 => (fR 9 28 h v0).bind fun x166 => (aI 0 h x166 v5).bind fun x171 => (if x171 ≤ x164 then (if (bI s1) = (0 : Int32) then (some (s0 + (1 : Int32))).bind fun x189 => (some (v5 + (1 : Int32))).bind fun x190 => k91 x189 x190 else (some (s0 + (-1 : Int32))).bind fun x189 => (some (v5 + (1 : Int32))).bind fun x190 => k91 x189 x190) else (if (bI s1) = (1 : Int32) then (some (s0 + (1 : Int32))).bind fun x189 => (some (v5 + (1 : Int32))).bind fun x190 => k91 x189 x190 else (some (s0 + (-1 : Int32))).bind fun x189 => (some (v5 + (1 : Int32))).bind fun x190 => k91 x189 x190))
set_option maxRecDepth 100000 in
theorem vl9_grows_158 {κ : Kx} (hc : CX κ RX9 cX9_grows) (hr : RX κ ({ frames := 1, cells := 0, slots := 0, locals := 22 } : Room)) (hq : QX κ (some .int) 0 0) (hL : 6 = κ.2.2.2.2.1) (k82 : Int32 → Int32 → Option (Int32 × AH)) (k91 : Int32 → Int32 → Option (Int32 × AH)) (h : AH) (v0 : Nat) (v1 : Int32) (v4 : Int32) (hk82 : ∀ (v3 : Int32) (v4 : Int32), V κ (wI) 0 0 82 [(0, .ref v0), (1, .int v1), (3, .int v3), (4, .int v4)] [] h (k82 v3 v4)) (hk91 : ∀ (v3 : Int32) (v5 : Int32), V κ (wI) 0 0 91 [(0, .ref v0), (1, .int v1), (3, .int v3), (4, .int v4), (5, .int v5)] [] h (k91 v3 v5)) (v5 : Int32) (s0 : Int32) (s1 : Bool) : V κ (wI) 0 0 158 [(0, .ref v0), (1, .int v1), (4, .int v4), (5, .int v5)] [.int (bI s1), .int s0] h (f9_grows_158 k82 k91 h v0 v1 v4 v5 s0 s1) := by
  have hn : ∀ i, i < 6 → i < κ.2.2.2.2.1 := fun i q => hL ▸ q
  unfold f9_grows_158
  refine v_aload_n (i := 0) hc 0 rfl dX9_grows_158 rfl ?_
  refine v_getV hc kX9 28 (by decide) w_1159 rfl dX9_grows_159 (gR rfl fun x159 => ?_)
  refine v_iload (i := 4) hc 2 rfl dX9_grows_162 ?_
  refine v_iald hc dX9_grows_164 fun x164 => ?_
  refine v_aload_n (i := 0) hc 0 rfl dX9_grows_165 rfl ?_
  refine v_getV hc kX9 28 (by decide) w_1159 rfl dX9_grows_166 (gR rfl fun x166 => ?_)
  refine v_iload (i := 5) hc 3 rfl dX9_grows_169 ?_
  refine v_iald hc dX9_grows_171 fun x171 => ?_
  refine v_icmp_ge hc 179 dX9_grows_172 rfl ?_ ?_
  · refine v_iconst (x := (0 : Int32)) hc dX9_grows_179 zi_0 ?_
    refine v_icmp_ne hc 187 dX9_grows_180 rfl ?_ ?_
    · refine v_iconst (x := (-1 : Int32)) hc dX9_grows_187 zi_m1 ?_
      refine v_iadd hc dX9_grows_188 ?_
      refine v_nmI fun x189 => ?_
      refine v_istore_n (i := 3) (L' := [(3, .int x189), (0, .ref v0), (1, .int v1), (4, .int v4), (5, .int v5)]) hc dX9_grows_189 rfl (hn 3 (Nat.le_of_ble_eq_true rfl)) rfl ?_
      refine v_iincN (i := 5) (y := (1 : Int32)) (L' := fun z => [(5, .int z), (3, .int x189), (0, .ref v0), (1, .int v1), (4, .int v4)]) hc 4 rfl dX9_grows_190 zi_1 (hn 5 (Nat.le_of_ble_eq_true rfl)) (fun _ => rfl) fun x190 => ?_
      refine v_goto hc 91 dX9_grows_193 rfl ?_
      refine v_sub (L' := [(0, .ref v0), (1, .int v1), (3, .int x189), (4, .int v4), (5, .int x190)]) [2, 3, 1, 4, 0] rfl ?_
      exact hk91 x189 x190
    · refine v_iconst (x := (1 : Int32)) hc dX9_grows_183 zi_1 ?_
      refine v_goto hc 188 dX9_grows_184 rfl ?_
      refine v_iadd hc dX9_grows_188 ?_
      refine v_nmI fun x189 => ?_
      refine v_istore_n (i := 3) (L' := [(3, .int x189), (0, .ref v0), (1, .int v1), (4, .int v4), (5, .int v5)]) hc dX9_grows_189 rfl (hn 3 (Nat.le_of_ble_eq_true rfl)) rfl ?_
      refine v_iincN (i := 5) (y := (1 : Int32)) (L' := fun z => [(5, .int z), (3, .int x189), (0, .ref v0), (1, .int v1), (4, .int v4)]) hc 4 rfl dX9_grows_190 zi_1 (hn 5 (Nat.le_of_ble_eq_true rfl)) (fun _ => rfl) fun x190 => ?_
      refine v_goto hc 91 dX9_grows_193 rfl ?_
      refine v_sub (L' := [(0, .ref v0), (1, .int v1), (3, .int x189), (4, .int v4), (5, .int x190)]) [2, 3, 1, 4, 0] rfl ?_
      exact hk91 x189 x190
  · refine v_iconst (x := (1 : Int32)) hc dX9_grows_175 zi_1 ?_
    refine v_goto hc 180 dX9_grows_176 rfl ?_
    refine v_icmp_ne hc 187 dX9_grows_180 rfl ?_ ?_
    · refine v_iconst (x := (-1 : Int32)) hc dX9_grows_187 zi_m1 ?_
      refine v_iadd hc dX9_grows_188 ?_
      refine v_nmI fun x189 => ?_
      refine v_istore_n (i := 3) (L' := [(3, .int x189), (0, .ref v0), (1, .int v1), (4, .int v4), (5, .int v5)]) hc dX9_grows_189 rfl (hn 3 (Nat.le_of_ble_eq_true rfl)) rfl ?_
      refine v_iincN (i := 5) (y := (1 : Int32)) (L' := fun z => [(5, .int z), (3, .int x189), (0, .ref v0), (1, .int v1), (4, .int v4)]) hc 4 rfl dX9_grows_190 zi_1 (hn 5 (Nat.le_of_ble_eq_true rfl)) (fun _ => rfl) fun x190 => ?_
      refine v_goto hc 91 dX9_grows_193 rfl ?_
      refine v_sub (L' := [(0, .ref v0), (1, .int v1), (3, .int x189), (4, .int v4), (5, .int x190)]) [2, 3, 1, 4, 0] rfl ?_
      exact hk91 x189 x190
    · refine v_iconst (x := (1 : Int32)) hc dX9_grows_183 zi_1 ?_
      refine v_goto hc 188 dX9_grows_184 rfl ?_
      refine v_iadd hc dX9_grows_188 ?_
      refine v_nmI fun x189 => ?_
      refine v_istore_n (i := 3) (L' := [(3, .int x189), (0, .ref v0), (1, .int v1), (4, .int v4), (5, .int v5)]) hc dX9_grows_189 rfl (hn 3 (Nat.le_of_ble_eq_true rfl)) rfl ?_
      refine v_iincN (i := 5) (y := (1 : Int32)) (L' := fun z => [(5, .int z), (3, .int x189), (0, .ref v0), (1, .int v1), (4, .int v4)]) hc 4 rfl dX9_grows_190 zi_1 (hn 5 (Nat.le_of_ble_eq_true rfl)) (fun _ => rfl) fun x190 => ?_
      refine v_goto hc 91 dX9_grows_193 rfl ?_
      refine v_sub (L' := [(0, .ref v0), (1, .int v1), (3, .int x189), (4, .int v4), (5, .int x190)]) [2, 3, 1, 4, 0] rfl ?_
      exact hk91 x189 x190
def f9_grows_91 (k82 : Int32 → Int32 → Option (Int32 × AH)) (h : AH) (v0 : Nat) (v1 : Int32) (v4 : Int32) : Nat → Int32 → Int32 → Option (Int32 × AH)
  | 0, _, _ => none
  | n + 1, v3, v5 => (if v4 ≤ v5 then (some (v4 + (1 : Int32))).bind fun x196 => k82 v3 x196 else (fR 9 29 h v0).bind fun x99 => (aI 0 h x99 v4).bind fun x104 => (fR 9 29 h v0).bind fun x106 => (aI 0 h x106 v5).bind fun x111 => (if x104 = x111 then (some (v5 + (1 : Int32))).bind fun x190 => f9_grows_91 k82 h v0 v1 v4 n v3 x190 else (fR 9 28 h v0).bind fun x116 => (aI 0 h x116 v4).bind fun x121 => (fR 9 28 h v0).bind fun x123 => (aI 0 h x123 v5).bind fun x128 => (if x121 = x128 then (some (v5 + (1 : Int32))).bind fun x190 => f9_grows_91 k82 h v0 v1 v4 n v3 x190 else (fR 9 29 h v0).bind fun x137 => (aI 0 h x137 v4).bind fun x142 => (fR 9 29 h v0).bind fun x144 => (aI 0 h x144 v5).bind fun x149 => (if x142 ≤ x149 then f9_grows_158 k82 (fun v3 v5 => f9_grows_91 k82 h v0 v1 v4 n v3 v5) h v0 v1 v4 v5 v3 false else f9_grows_158 k82 (fun v3 v5 => f9_grows_91 k82 h v0 v1 v4 n v3 v5) h v0 v1 v4 v5 v3 true))))
set_option maxRecDepth 100000 in
theorem vl9_grows_91 {κ : Kx} (hc : CX κ RX9 cX9_grows) (hr : RX κ ({ frames := 1, cells := 0, slots := 0, locals := 22 } : Room)) (hq : QX κ (some .int) 0 0) (hL : 6 = κ.2.2.2.2.1)  (k82 : Int32 → Int32 → Option (Int32 × AH)) (h : AH) (v0 : Nat) (v1 : Int32) (v4 : Int32) (hk82 : ∀ (v3 : Int32) (v4 : Int32), V κ (wI) 0 0 82 [(0, .ref v0), (1, .int v1), (3, .int v3), (4, .int v4)] [] h (k82 v3 v4)) : ∀ n (v3 : Int32) (v5 : Int32), V κ (wI) 0 0 91 [(0, .ref v0), (1, .int v1), (3, .int v3), (4, .int v4), (5, .int v5)] [] h (f9_grows_91 k82 h v0 v1 v4 n v3 v5) := by
  have hn : ∀ i, i < 6 → i < κ.2.2.2.2.1 := fun i q => hL ▸ q
  intro n
  induction n with
  | zero => intros; exact v_none
  | succ n ih =>
    intro v3 v5
    rw [f9_grows_91.eq_2]
    refine v_iload (i := 5) hc 4 rfl dX9_grows_91 ?_
    refine v_iload (i := 4) hc 3 rfl dX9_grows_93 ?_
    refine v_icmp_ge hc 196 dX9_grows_95 rfl ?_ ?_
    · refine v_iincN (i := 4) (y := (1 : Int32)) (L' := fun z => [(4, .int z), (0, .ref v0), (1, .int v1), (3, .int v3), (5, .int v5)]) hc 3 rfl dX9_grows_196 zi_1 (hn 4 (Nat.le_of_ble_eq_true rfl)) (fun _ => rfl) fun x196 => ?_
      refine v_goto hc 82 dX9_grows_199 rfl ?_
      refine v_sub (L' := [(0, .ref v0), (1, .int v1), (3, .int v3), (4, .int x196)]) [1, 2, 3, 0] rfl ?_
      exact hk82 v3 x196
    · refine v_aload_n (i := 0) hc 0 rfl dX9_grows_98 rfl ?_
      refine v_getV hc kX9 29 (by decide) w_1160 rfl dX9_grows_99 (gR rfl fun x99 => ?_)
      refine v_iload (i := 4) hc 3 rfl dX9_grows_102 ?_
      refine v_iald hc dX9_grows_104 fun x104 => ?_
      refine v_aload_n (i := 0) hc 0 rfl dX9_grows_105 rfl ?_
      refine v_getV hc kX9 29 (by decide) w_1160 rfl dX9_grows_106 (gR rfl fun x106 => ?_)
      refine v_iload (i := 5) hc 4 rfl dX9_grows_109 ?_
      refine v_iald hc dX9_grows_111 fun x111 => ?_
      refine v_icmp_eq hc 190 dX9_grows_112 rfl ?_ ?_
      · refine v_iincN (i := 5) (y := (1 : Int32)) (L' := fun z => [(5, .int z), (0, .ref v0), (1, .int v1), (3, .int v3), (4, .int v4)]) hc 4 rfl dX9_grows_190 zi_1 (hn 5 (Nat.le_of_ble_eq_true rfl)) (fun _ => rfl) fun x190 => ?_
        refine v_goto hc 91 dX9_grows_193 rfl ?_
        refine v_sub (L' := [(0, .ref v0), (1, .int v1), (3, .int v3), (4, .int v4), (5, .int x190)]) [1, 2, 3, 4, 0] rfl ?_
        exact ih v3 x190
      · refine v_aload_n (i := 0) hc 0 rfl dX9_grows_115 rfl ?_
        refine v_getV hc kX9 28 (by decide) w_1159 rfl dX9_grows_116 (gR rfl fun x116 => ?_)
        refine v_iload (i := 4) hc 3 rfl dX9_grows_119 ?_
        refine v_iald hc dX9_grows_121 fun x121 => ?_
        refine v_aload_n (i := 0) hc 0 rfl dX9_grows_122 rfl ?_
        refine v_getV hc kX9 28 (by decide) w_1159 rfl dX9_grows_123 (gR rfl fun x123 => ?_)
        refine v_iload (i := 5) hc 4 rfl dX9_grows_126 ?_
        refine v_iald hc dX9_grows_128 fun x128 => ?_
        refine v_icmp_ne hc 135 dX9_grows_129 rfl ?_ ?_
        · refine v_iload_n (i := 3) hc 2 rfl dX9_grows_135 rfl ?_
          refine v_aload_n (i := 0) hc 0 rfl dX9_grows_136 rfl ?_
          refine v_getV hc kX9 29 (by decide) w_1160 rfl dX9_grows_137 (gR rfl fun x137 => ?_)
          refine v_iload (i := 4) hc 3 rfl dX9_grows_140 ?_
          refine v_iald hc dX9_grows_142 fun x142 => ?_
          refine v_aload_n (i := 0) hc 0 rfl dX9_grows_143 rfl ?_
          refine v_getV hc kX9 29 (by decide) w_1160 rfl dX9_grows_144 (gR rfl fun x144 => ?_)
          refine v_iload (i := 5) hc 4 rfl dX9_grows_147 ?_
          refine v_iald hc dX9_grows_149 fun x149 => ?_
          refine v_icmp_le hc 157 dX9_grows_150 rfl ?_ ?_
          · refine v_iconst (x := (0 : Int32)) hc dX9_grows_157 zi_0 ?_
            refine v_sub (L' := [(0, .ref v0), (1, .int v1), (4, .int v4), (5, .int v5)]) [0, 1, 3, 4] rfl ?_
            exact vl9_grows_158 hc hr hq hL k82 (fun v3 v5 => f9_grows_91 k82 h v0 v1 v4 n v3 v5) h v0 v1 v4 hk82 ih v5 v3 false
          · refine v_iconst (x := (1 : Int32)) hc dX9_grows_153 zi_1 ?_
            refine v_goto hc 158 dX9_grows_154 rfl ?_
            refine v_sub (L' := [(0, .ref v0), (1, .int v1), (4, .int v4), (5, .int v5)]) [0, 1, 3, 4] rfl ?_
            exact vl9_grows_158 hc hr hq hL k82 (fun v3 v5 => f9_grows_91 k82 h v0 v1 v4 n v3 v5) h v0 v1 v4 hk82 ih v5 v3 true
        · refine v_goto hc 190 dX9_grows_132 rfl ?_
          refine v_iincN (i := 5) (y := (1 : Int32)) (L' := fun z => [(5, .int z), (0, .ref v0), (1, .int v1), (3, .int v3), (4, .int v4)]) hc 4 rfl dX9_grows_190 zi_1 (hn 5 (Nat.le_of_ble_eq_true rfl)) (fun _ => rfl) fun x190 => ?_
          refine v_goto hc 91 dX9_grows_193 rfl ?_
          refine v_sub (L' := [(0, .ref v0), (1, .int v1), (3, .int v3), (4, .int v4), (5, .int x190)]) [1, 2, 3, 4, 0] rfl ?_
          exact ih v3 x190
def f9_grows_82 (h : AH) (v0 : Nat) (v1 : Int32) : Nat → Int32 → Int32 → Option (Int32 × AH)
  | 0, _, _ => none
  | n + 1, v3, v4 => (if v1 ≤ v4 then some (v3, h) else f9_grows_91 (fun v3 v4 => f9_grows_82 h v0 v1 n v3 v4) h v0 v1 v4 FU v3 (0 : Int32))
set_option maxRecDepth 100000 in
theorem vl9_grows_82 {κ : Kx} (hc : CX κ RX9 cX9_grows) (hr : RX κ ({ frames := 1, cells := 0, slots := 0, locals := 22 } : Room)) (hq : QX κ (some .int) 0 0) (hL : 6 = κ.2.2.2.2.1)  (h : AH) (v0 : Nat) (v1 : Int32) : ∀ n (v3 : Int32) (v4 : Int32), V κ (wI) 0 0 82 [(0, .ref v0), (1, .int v1), (3, .int v3), (4, .int v4)] [] h (f9_grows_82 h v0 v1 n v3 v4) := by
  have hn : ∀ i, i < 6 → i < κ.2.2.2.2.1 := fun i q => hL ▸ q
  intro n
  induction n with
  | zero => intros; exact v_none
  | succ n ih =>
    intro v3 v4
    rw [f9_grows_82.eq_2]
    refine v_iload (i := 4) hc 3 rfl dX9_grows_82 ?_
    refine v_iload_n (i := 1) hc 1 rfl dX9_grows_84 rfl ?_
    refine v_icmp_ge hc 202 dX9_grows_85 rfl ?_ ?_
    · refine v_iload_n (i := 3) hc 2 rfl dX9_grows_202 rfl ?_
      exact v_iret hc hq rfl rfl (Nat.le_of_ble_eq_true rfl) (Nat.le_of_ble_eq_true rfl) rfl dX9_grows_203
    · refine v_iconst (x := (0 : Int32)) hc dX9_grows_88 zi_0 ?_
      refine v_istore (i := 5) (L' := [(5, .int (0 : Int32)), (0, .ref v0), (1, .int v1), (3, .int v3), (4, .int v4)]) hc dX9_grows_89 (hn 5 (Nat.le_of_ble_eq_true rfl)) rfl ?_
      refine v_sub (L' := [(0, .ref v0), (1, .int v1), (3, .int v3), (4, .int v4), (5, .int (0 : Int32))]) [1, 2, 3, 4, 0] rfl ?_
      exact vl9_grows_91 hc hr hq hL (fun v3 v4 => f9_grows_82 h v0 v1 n v3 v4) h v0 v1 v4 ih FU v3 (0 : Int32)
def f9_grows_6 (v0 : Nat) : Nat → AH → Int32 → Int32 → Int32 → Option (Int32 × AH)
  | 0, _, _, _, _ => none
  | n + 1, h, v1, v2, v3 => (fR 9 0 h v0).bind fun x8 => (aI 0 h x8 (4 : Int32)).bind fun x12 => (if x12 ≤ v3 then f9_grows_82 h v0 v1 FU (0 : Int32) (0 : Int32) else (f9_pieceCell h v0 v3 (0 : Int32)).bind fun x19 => (if x19 = 0 then (if v2 < 0 then (some (v3 + (1 : Int32))).bind fun x71 => f9_grows_6 v0 n h v1 v3 x71 else (fR 9 28 h v0).bind fun x33 => (f9_pieceCell h v0 v3 (8 : Int32)).bind fun x41 => (f9_pieceCell h v0 v2 (8 : Int32)).bind fun x48 => (sI 0 h x33 v1 (x41 - x48)).bind fun h52 => (fR 9 29 h52 v0).bind fun x54 => (f9_pieceCell h52 v0 v2 (7 : Int32)).bind fun x62 => (sI 0 h52 x54 v1 x62).bind fun h65 => (some (v1 + (1 : Int32))).bind fun x66 => (some (v3 + (1 : Int32))).bind fun x71 => f9_grows_6 v0 n h65 x66 v3 x71) else (some (v3 + (1 : Int32))).bind fun x71 => f9_grows_6 v0 n h v1 v2 x71))
set_option maxRecDepth 100000 in
theorem vl9_grows_6 {κ : Kx} (hc : CX κ RX9 cX9_grows) (hr : RX κ ({ frames := 1, cells := 0, slots := 0, locals := 22 } : Room)) (hq : QX κ (some .int) 0 0) (hL : 6 = κ.2.2.2.2.1)  (v0 : Nat) : ∀ n (h : AH) (v1 : Int32) (v2 : Int32) (v3 : Int32), V κ (wI) 0 0 6 [(0, .ref v0), (1, .int v1), (2, .int v2), (3, .int v3)] [] h (f9_grows_6 v0 n h v1 v2 v3) := by
  have hn : ∀ i, i < 6 → i < κ.2.2.2.2.1 := fun i q => hL ▸ q
  intro n
  induction n with
  | zero => intros; exact v_none
  | succ n ih =>
    intro h v1 v2 v3
    rw [f9_grows_6.eq_2]
    refine v_iload_n (i := 3) hc 3 rfl dX9_grows_6 rfl ?_
    refine v_aload_n (i := 0) hc 0 rfl dX9_grows_7 rfl ?_
    refine v_getV hc kX9 0 (by decide) w_1131 rfl dX9_grows_8 (gR rfl fun x8 => ?_)
    refine v_iconst (x := (4 : Int32)) hc dX9_grows_11 zi_4 ?_
    refine v_iald hc dX9_grows_12 fun x12 => ?_
    refine v_icmp_ge hc 77 dX9_grows_13 rfl ?_ ?_
    · refine v_iconst (x := (0 : Int32)) hc dX9_grows_77 zi_0 ?_
      refine v_istore_n (i := 3) (L' := [(3, .int (0 : Int32)), (0, .ref v0), (1, .int v1), (2, .int v2)]) hc dX9_grows_78 rfl (hn 3 (Nat.le_of_ble_eq_true rfl)) rfl ?_
      refine v_iconst (x := (0 : Int32)) hc dX9_grows_79 zi_0 ?_
      refine v_istore (i := 4) (L' := [(4, .int (0 : Int32)), (3, .int (0 : Int32)), (0, .ref v0), (1, .int v1), (2, .int v2)]) hc dX9_grows_80 (hn 4 (Nat.le_of_ble_eq_true rfl)) rfl ?_
      refine v_sub (L' := [(0, .ref v0), (1, .int v1), (3, .int (0 : Int32)), (4, .int (0 : Int32))]) [2, 3, 1, 0] rfl ?_
      exact vl9_grows_82 hc hr hq hL h v0 v1 FU (0 : Int32) (0 : Int32)
    · refine v_aload_n (i := 0) hc 0 rfl dX9_grows_16 rfl ?_
      refine v_iload_n (i := 3) hc 3 rfl dX9_grows_17 rfl ?_
      refine v_iconst (x := (0 : Int32)) hc dX9_grows_18 zi_0 ?_
      refine v_cI hc (m_V' (As := [.int v3, .int (0 : Int32)]) (b := v0) (rest := []) 2 hc hr (fun l D tys base => ct9_pieceCell l D tys base h v0 v3 (0 : Int32)) (fun x hx => ob9_pieceCell hx) rfl s9_pieceCell w_1327 rfl ⟨Nat.le_of_ble_eq_true rfl, Nat.le_of_ble_eq_true rfl⟩ ⟨Nat.le_of_ble_eq_true rfl, Nat.le_of_ble_eq_true rfl⟩ (Nat.le_of_ble_eq_true rfl) dX9_grows_19) fun x19 => ?_
      refine v_if_eq hc 28 dX9_grows_22 rfl ?_ ?_
      · refine v_iload_n (i := 2) hc 2 rfl dX9_grows_28 rfl ?_
        refine v_if_lt hc 69 dX9_grows_29 rfl ?_ ?_
        · refine v_iload_n (i := 3) hc 3 rfl dX9_grows_69 rfl ?_
          refine v_istore_n (i := 2) (L' := [(2, .int v3), (0, .ref v0), (1, .int v1), (3, .int v3)]) hc dX9_grows_70 rfl (hn 2 (Nat.le_of_ble_eq_true rfl)) rfl ?_
          refine v_iincN (i := 3) (y := (1 : Int32)) (L' := fun z => [(3, .int z), (2, .int v3), (0, .ref v0), (1, .int v1)]) hc 3 rfl dX9_grows_71 zi_1 (hn 3 (Nat.le_of_ble_eq_true rfl)) (fun _ => rfl) fun x71 => ?_
          refine v_goto hc 6 dX9_grows_74 rfl ?_
          refine v_sub (L' := [(0, .ref v0), (1, .int v1), (2, .int v3), (3, .int x71)]) [2, 3, 1, 0] rfl ?_
          exact ih h v1 v3 x71
        · refine v_aload_n (i := 0) hc 0 rfl dX9_grows_32 rfl ?_
          refine v_getV hc kX9 28 (by decide) w_1159 rfl dX9_grows_33 (gR rfl fun x33 => ?_)
          refine v_iload_n (i := 1) hc 1 rfl dX9_grows_36 rfl ?_
          refine v_aload_n (i := 0) hc 0 rfl dX9_grows_37 rfl ?_
          refine v_iload_n (i := 3) hc 3 rfl dX9_grows_38 rfl ?_
          refine v_bipush (x := (8 : Int32)) hc dX9_grows_39 zb_8 ?_
          refine v_cI hc (m_V' (As := [.int v3, .int (8 : Int32)]) (b := v0) (rest := [.int v1, .ref x33]) 2 hc hr (fun l D tys base => ct9_pieceCell l D tys base h v0 v3 (8 : Int32)) (fun x hx => ob9_pieceCell hx) rfl s9_pieceCell w_1327 rfl ⟨Nat.le_of_ble_eq_true rfl, Nat.le_of_ble_eq_true rfl⟩ ⟨Nat.le_of_ble_eq_true rfl, Nat.le_of_ble_eq_true rfl⟩ (Nat.le_of_ble_eq_true rfl) dX9_grows_41) fun x41 => ?_
          refine v_aload_n (i := 0) hc 0 rfl dX9_grows_44 rfl ?_
          refine v_iload_n (i := 2) hc 2 rfl dX9_grows_45 rfl ?_
          refine v_bipush (x := (8 : Int32)) hc dX9_grows_46 zb_8 ?_
          refine v_cI hc (m_V' (As := [.int v2, .int (8 : Int32)]) (b := v0) (rest := [.int x41, .int v1, .ref x33]) 2 hc hr (fun l D tys base => ct9_pieceCell l D tys base h v0 v2 (8 : Int32)) (fun x hx => ob9_pieceCell hx) rfl s9_pieceCell w_1327 rfl ⟨Nat.le_of_ble_eq_true rfl, Nat.le_of_ble_eq_true rfl⟩ ⟨Nat.le_of_ble_eq_true rfl, Nat.le_of_ble_eq_true rfl⟩ (Nat.le_of_ble_eq_true rfl) dX9_grows_48) fun x48 => ?_
          refine v_isub hc dX9_grows_51 ?_
          refine v_iast hc dX9_grows_52 fun h52 => ?_
          refine v_aload_n (i := 0) hc 0 rfl dX9_grows_53 rfl ?_
          refine v_getV hc kX9 29 (by decide) w_1160 rfl dX9_grows_54 (gR rfl fun x54 => ?_)
          refine v_iload_n (i := 1) hc 1 rfl dX9_grows_57 rfl ?_
          refine v_aload_n (i := 0) hc 0 rfl dX9_grows_58 rfl ?_
          refine v_iload_n (i := 2) hc 2 rfl dX9_grows_59 rfl ?_
          refine v_bipush (x := (7 : Int32)) hc dX9_grows_60 zb_7 ?_
          refine v_cI hc (m_V' (As := [.int v2, .int (7 : Int32)]) (b := v0) (rest := [.int v1, .ref x54]) 2 hc hr (fun l D tys base => ct9_pieceCell l D tys base h52 v0 v2 (7 : Int32)) (fun x hx => ob9_pieceCell hx) rfl s9_pieceCell w_1327 rfl ⟨Nat.le_of_ble_eq_true rfl, Nat.le_of_ble_eq_true rfl⟩ ⟨Nat.le_of_ble_eq_true rfl, Nat.le_of_ble_eq_true rfl⟩ (Nat.le_of_ble_eq_true rfl) dX9_grows_62) fun x62 => ?_
          refine v_iast hc dX9_grows_65 fun h65 => ?_
          refine v_iincN (i := 1) (y := (1 : Int32)) (L' := fun z => [(1, .int z), (0, .ref v0), (2, .int v2), (3, .int v3)]) hc 1 rfl dX9_grows_66 zi_1 (hn 1 (Nat.le_of_ble_eq_true rfl)) (fun _ => rfl) fun x66 => ?_
          refine v_iload_n (i := 3) hc 3 rfl dX9_grows_69 rfl ?_
          refine v_istore_n (i := 2) (L' := [(2, .int v3), (1, .int x66), (0, .ref v0), (3, .int v3)]) hc dX9_grows_70 rfl (hn 2 (Nat.le_of_ble_eq_true rfl)) rfl ?_
          refine v_iincN (i := 3) (y := (1 : Int32)) (L' := fun z => [(3, .int z), (2, .int v3), (1, .int x66), (0, .ref v0)]) hc 3 rfl dX9_grows_71 zi_1 (hn 3 (Nat.le_of_ble_eq_true rfl)) (fun _ => rfl) fun x71 => ?_
          refine v_goto hc 6 dX9_grows_74 rfl ?_
          refine v_sub (L' := [(0, .ref v0), (1, .int x66), (2, .int v3), (3, .int x71)]) [3, 2, 1, 0] rfl ?_
          exact ih h65 x66 v3 x71
      · refine v_goto hc 71 dX9_grows_25 rfl ?_
        refine v_iincN (i := 3) (y := (1 : Int32)) (L' := fun z => [(3, .int z), (0, .ref v0), (1, .int v1), (2, .int v2)]) hc 3 rfl dX9_grows_71 zi_1 (hn 3 (Nat.le_of_ble_eq_true rfl)) (fun _ => rfl) fun x71 => ?_
        refine v_goto hc 6 dX9_grows_74 rfl ?_
        refine v_sub (L' := [(0, .ref v0), (1, .int v1), (2, .int v2), (3, .int x71)]) [1, 2, 3, 0] rfl ?_
        exact ih h v1 v2 x71
def f9_grows (h : AH) (this : Nat) : Option (Int32 × AH) := (hObj 9 h this).bind fun _ => f9_grows_6 this FU h (0 : Int32) (-1 : Int32) (0 : Int32)
theorem ob9_grows {h : AH} {this : Nat} {x : Int32 × AH} (e : f9_grows h this = some x) : ∃ fs, hObj 9 h this = some fs := by
  unfold f9_grows at e
  obtain ⟨fs, h1, -⟩ := bd e
  exact ⟨fs, h1⟩
set_option maxRecDepth 100000 in
theorem ct9_grows (l : Launch) (D : va_G) (tys : Tys) (base : Nat) (h : AH) (this : Nat) : Ct l D tys base yX9_grows cX9_grows 6 (some .int) 1 22 0 0 [.ref this] h (wI) (f9_grows h this) := by
  refine Ct.intro (own := RX9) (L := [(0, .ref this)]) rfl (by decide) rfl (Nat.le_of_ble_eq_true rfl) fun κ hc hr hq hi hL => ?_
  have hn : ∀ i, i < 6 → i < κ.2.2.2.2.1 := fun i q => hL ▸ q
  unfold f9_grows
  refine v_obj ?_
  refine v_iconst (x := (0 : Int32)) hc dX9_grows_0 zi_0 ?_
  refine v_istore_n (i := 1) (L' := [(1, .int (0 : Int32)), (0, .ref this)]) hc dX9_grows_1 rfl (hn 1 (Nat.le_of_ble_eq_true rfl)) rfl ?_
  refine v_iconst (x := (-1 : Int32)) hc dX9_grows_2 zi_m1 ?_
  refine v_istore_n (i := 2) (L' := [(2, .int (-1 : Int32)), (1, .int (0 : Int32)), (0, .ref this)]) hc dX9_grows_3 rfl (hn 2 (Nat.le_of_ble_eq_true rfl)) rfl ?_
  refine v_iconst (x := (0 : Int32)) hc dX9_grows_4 zi_0 ?_
  refine v_istore_n (i := 3) (L' := [(3, .int (0 : Int32)), (2, .int (-1 : Int32)), (1, .int (0 : Int32)), (0, .ref this)]) hc dX9_grows_5 rfl (hn 3 (Nat.le_of_ble_eq_true rfl)) rfl ?_
  refine v_sub (L' := [(0, .ref this), (1, .int (0 : Int32)), (2, .int (-1 : Int32)), (3, .int (0 : Int32))]) [3, 2, 1, 0] rfl ?_
  exact vl9_grows_6 hc hr hq hL this FU h (0 : Int32) (-1 : Int32) (0 : Int32)
theorem s9_grows : YV yX9_grows RX9 cX9_grows 6 (some .int) 0 := ⟨w_1609, w_1607, w_1608, w_118, rfl, by decide +kernel, by decide +kernel, by decide +kernel⟩
def f9_placeBy_111 (h : AH) (v0 : Nat) (v1 : Int32) (v2 : Int32) : Nat → Int32 → Int32 → Option (Int32 × AH)
  | 0, _, _ => none
  | n + 1, v4, v5 => (fR 9 12 h v0).bind fun x114 => (aI 0 h x114 v1).bind fun x118 => (if x118 ≤ v5 then some (v4, h) else (if v4 = (-1 : Int32) then (fR 9 11 h v0).bind fun x130 => (aI 0 h x130 (((12 : Int32) * v1) + v5)).bind fun x140 => (f9_factOf h v0 x140 v2).bind fun x142 => (some (v5 + (1 : Int32))).bind fun x147 => f9_placeBy_111 h v0 v1 v2 n x142 x147 else some (v4, h)))
set_option maxRecDepth 100000 in
theorem vl9_placeBy_111 {κ : Kx} (hc : CX κ RX9 cX9_placeBy) (hr : RX κ ({ frames := 1, cells := 0, slots := 0, locals := 23 } : Room)) (hq : QX κ (some .int) 0 0) (hL : 6 = κ.2.2.2.2.1)  (h : AH) (v0 : Nat) (v1 : Int32) (v2 : Int32) : ∀ n (v4 : Int32) (v5 : Int32), V κ (wI) 0 0 111 [(0, .ref v0), (1, .int v1), (2, .int v2), (4, .int v4), (5, .int v5)] [] h (f9_placeBy_111 h v0 v1 v2 n v4 v5) := by
  have hn : ∀ i, i < 6 → i < κ.2.2.2.2.1 := fun i q => hL ▸ q
  intro n
  induction n with
  | zero => intros; exact v_none
  | succ n ih =>
    intro v4 v5
    rw [f9_placeBy_111.eq_2]
    refine v_iload (i := 5) hc 4 rfl dX9_placeBy_111 ?_
    refine v_aload_n (i := 0) hc 0 rfl dX9_placeBy_113 rfl ?_
    refine v_getV hc kX9 12 (by decide) w_1143 rfl dX9_placeBy_114 (gR rfl fun x114 => ?_)
    refine v_iload_n (i := 1) hc 1 rfl dX9_placeBy_117 rfl ?_
    refine v_iald hc dX9_placeBy_118 fun x118 => ?_
    refine v_icmp_ge hc 153 dX9_placeBy_119 rfl ?_ ?_
    · refine v_iload (i := 4) hc 3 rfl dX9_placeBy_153 ?_
      exact v_iret hc hq rfl rfl (Nat.le_of_ble_eq_true rfl) (Nat.le_of_ble_eq_true rfl) rfl dX9_placeBy_155
    · refine v_iload (i := 4) hc 3 rfl dX9_placeBy_122 ?_
      refine v_iconst (x := (-1 : Int32)) hc dX9_placeBy_124 zi_m1 ?_
      refine v_icmp_ne hc 153 dX9_placeBy_125 rfl ?_ ?_
      · refine v_iload (i := 4) hc 3 rfl dX9_placeBy_153 ?_
        exact v_iret hc hq rfl rfl (Nat.le_of_ble_eq_true rfl) (Nat.le_of_ble_eq_true rfl) rfl dX9_placeBy_155
      · refine v_aload_n (i := 0) hc 0 rfl dX9_placeBy_128 rfl ?_
        refine v_aload_n (i := 0) hc 0 rfl dX9_placeBy_129 rfl ?_
        refine v_getV hc kX9 11 (by decide) w_1142 rfl dX9_placeBy_130 (gR rfl fun x130 => ?_)
        refine v_bipush (x := (12 : Int32)) hc dX9_placeBy_133 zb_12 ?_
        refine v_iload_n (i := 1) hc 1 rfl dX9_placeBy_135 rfl ?_
        refine v_imul hc dX9_placeBy_136 ?_
        refine v_iload (i := 5) hc 4 rfl dX9_placeBy_137 ?_
        refine v_iadd hc dX9_placeBy_139 ?_
        refine v_iald hc dX9_placeBy_140 fun x140 => ?_
        refine v_iload_n (i := 2) hc 2 rfl dX9_placeBy_141 rfl ?_
        refine v_cI hc (m_V' (As := [.int x140, .int v2]) (b := v0) (rest := []) 2 hc hr (fun l D tys base => ct9_factOf l D tys base h v0 x140 v2) (fun x hx => ob9_factOf hx) rfl s9_factOf w_1272 rfl ⟨Nat.le_of_ble_eq_true rfl, Nat.le_of_ble_eq_true rfl⟩ ⟨Nat.le_of_ble_eq_true rfl, Nat.le_of_ble_eq_true rfl⟩ (Nat.le_of_ble_eq_true rfl) dX9_placeBy_142) fun x142 => ?_
        refine v_istore (i := 4) (L' := [(4, .int x142), (0, .ref v0), (1, .int v1), (2, .int v2), (5, .int v5)]) hc dX9_placeBy_145 (hn 4 (Nat.le_of_ble_eq_true rfl)) rfl ?_
        refine v_iincN (i := 5) (y := (1 : Int32)) (L' := fun z => [(5, .int z), (4, .int x142), (0, .ref v0), (1, .int v1), (2, .int v2)]) hc 4 rfl dX9_placeBy_147 zi_1 (hn 5 (Nat.le_of_ble_eq_true rfl)) (fun _ => rfl) fun x147 => ?_
        refine v_goto hc 111 dX9_placeBy_150 rfl ?_
        refine v_sub (L' := [(0, .ref v0), (1, .int v1), (2, .int v2), (4, .int x142), (5, .int x147)]) [2, 3, 4, 1, 0] rfl ?_
        exact ih x142 x147
def f9_placeBy_39 (h : AH) (v0 : Nat) (v1 : Int32) (v2 : Int32) (s0 : Bool) : Option (Int32 × AH) := (fL 9 30 h v0).bind fun x42 => (f9_drawn h x42).bind fun x45 => (fS 9 30 h v0 (.long x45)).bind fun h48 => (if s0 = true then (fR 9 12 h48 v0).bind fun x56 => (aI 0 h48 x56 v1).bind fun x60 => (if x60 = 0 then some ((-1 : Int32), h48) else (fR 9 11 h48 v0).bind fun x70 => (fL 9 30 h48 v0).bind fun x78 => if (65536 : Int64) = 0 then none else (some (x78 / (65536 : Int64))).bind fun z84 => (fR 9 12 h48 v0).bind fun x86 => (aI 0 h48 x86 v1).bind fun x90 => if x90.toInt64 = 0 then none else (some (z84 - z84 / x90.toInt64 * x90.toInt64)).bind fun z92 => (aI 0 h48 x70 (((12 : Int32) * v1) + z92.toInt32)).bind fun x95 => (f9_factOf h48 v0 x95 v2).bind fun x97 => some (x97, h48)) else (f9_truthOf h48 v0 v2).bind fun x103 => f9_placeBy_111 h48 v0 v1 v2 FU x103 (0 : Int32))
set_option maxRecDepth 100000 in
theorem vl9_placeBy_39 {κ : Kx} (hc : CX κ RX9 cX9_placeBy) (hr : RX κ ({ frames := 1, cells := 0, slots := 0, locals := 23 } : Room)) (hq : QX κ (some .int) 0 0) (hL : 6 = κ.2.2.2.2.1) (h : AH) (v0 : Nat) (v1 : Int32) (v2 : Int32) (s0 : Bool) : V κ (wI) 0 0 39 [(0, .ref v0), (1, .int v1), (2, .int v2)] [.int (bI s0)] h (f9_placeBy_39 h v0 v1 v2 s0) := by
  have hn : ∀ i, i < 6 → i < κ.2.2.2.2.1 := fun i q => hL ▸ q
  unfold f9_placeBy_39
  refine v_istore_n (i := 3) (L' := [(3, .int (bI s0)), (0, .ref v0), (1, .int v1), (2, .int v2)]) hc dX9_placeBy_39 rfl (hn 3 (Nat.le_of_ble_eq_true rfl)) rfl ?_
  refine v_aload_n (i := 0) hc 1 rfl dX9_placeBy_40 rfl ?_
  refine v_aload_n (i := 0) hc 1 rfl dX9_placeBy_41 rfl ?_
  refine v_getV hc kX9 30 (by decide) w_1161 rfl dX9_placeBy_42 (gB rfl fun x42 => ?_)
  refine v_cL hc (m_S' (As := [.long x42]) (rest := [.ref v0]) 1 hc hr (fun l D tys base => ct9_drawn l D tys base h x42) s9_drawn w_1548 rfl ⟨Nat.le_of_ble_eq_true rfl, Nat.le_of_ble_eq_true rfl⟩ ⟨Nat.le_of_ble_eq_true rfl, Nat.le_of_ble_eq_true rfl⟩ (Nat.le_of_ble_eq_true rfl) dX9_placeBy_45) fun x45 => ?_
  refine v_put hc kX9 30 (by decide) w_1161 rfl rfl dX9_placeBy_48 ⟨rfl, rfl⟩ fun h48 => ?_
  refine v_iload_n (i := 3) hc 0 rfl dX9_placeBy_51 rfl ?_
  refine v_ifb_eq hc 101 dX9_placeBy_52 rfl ?_ ?_
  · refine v_aload_n (i := 0) hc 1 rfl dX9_placeBy_101 rfl ?_
    refine v_iload_n (i := 2) hc 3 rfl dX9_placeBy_102 rfl ?_
    refine v_cI hc (m_V' (As := [.int v2]) (b := v0) (rest := []) 1 hc hr (fun l D tys base => ct9_truthOf l D tys base h48 v0 v2) (fun x hx => ob9_truthOf hx) rfl s9_truthOf w_1263 rfl ⟨Nat.le_of_ble_eq_true rfl, Nat.le_of_ble_eq_true rfl⟩ ⟨Nat.le_of_ble_eq_true rfl, Nat.le_of_ble_eq_true rfl⟩ (Nat.le_of_ble_eq_true rfl) dX9_placeBy_103) fun x103 => ?_
    refine v_istore (i := 4) (L' := [(4, .int x103), (3, .int (bI s0)), (0, .ref v0), (1, .int v1), (2, .int v2)]) hc dX9_placeBy_106 (hn 4 (Nat.le_of_ble_eq_true rfl)) rfl ?_
    refine v_iconst (x := (0 : Int32)) hc dX9_placeBy_108 zi_0 ?_
    refine v_istore (i := 5) (L' := [(5, .int (0 : Int32)), (4, .int x103), (3, .int (bI s0)), (0, .ref v0), (1, .int v1), (2, .int v2)]) hc dX9_placeBy_109 (hn 5 (Nat.le_of_ble_eq_true rfl)) rfl ?_
    refine v_sub (L' := [(0, .ref v0), (1, .int v1), (2, .int v2), (4, .int x103), (5, .int (0 : Int32))]) [3, 4, 5, 1, 0] rfl ?_
    exact vl9_placeBy_111 hc hr hq hL h48 v0 v1 v2 FU x103 (0 : Int32)
  · refine v_aload_n (i := 0) hc 1 rfl dX9_placeBy_55 rfl ?_
    refine v_getV hc kX9 12 (by decide) w_1143 rfl dX9_placeBy_56 (gR rfl fun x56 => ?_)
    refine v_iload_n (i := 1) hc 2 rfl dX9_placeBy_59 rfl ?_
    refine v_iald hc dX9_placeBy_60 fun x60 => ?_
    refine v_if_ne hc 68 dX9_placeBy_61 rfl ?_ ?_
    · refine v_aload_n (i := 0) hc 1 rfl dX9_placeBy_68 rfl ?_
      refine v_aload_n (i := 0) hc 1 rfl dX9_placeBy_69 rfl ?_
      refine v_getV hc kX9 11 (by decide) w_1142 rfl dX9_placeBy_70 (gR rfl fun x70 => ?_)
      refine v_bipush (x := (12 : Int32)) hc dX9_placeBy_73 zb_12 ?_
      refine v_iload_n (i := 1) hc 2 rfl dX9_placeBy_75 rfl ?_
      refine v_imul hc dX9_placeBy_76 ?_
      refine v_aload_n (i := 0) hc 1 rfl dX9_placeBy_77 rfl ?_
      refine v_getV hc kX9 30 (by decide) w_1161 rfl dX9_placeBy_78 (gB rfl fun x78 => ?_)
      refine v_ldc2 (x := (65536 : Int64)) hc w_1554 dX9_placeBy_81 ?_
      refine v_ldivN hc dX9_placeBy_84 fun z84 => ?_
      refine v_aload_n (i := 0) hc 1 rfl dX9_placeBy_85 rfl ?_
      refine v_getV hc kX9 12 (by decide) w_1143 rfl dX9_placeBy_86 (gR rfl fun x86 => ?_)
      refine v_iload_n (i := 1) hc 2 rfl dX9_placeBy_89 rfl ?_
      refine v_iald hc dX9_placeBy_90 fun x90 => ?_
      refine v_i2l hc dX9_placeBy_91 ?_
      refine v_lremN hc dX9_placeBy_92 fun z92 => ?_
      refine v_l2i hc dX9_placeBy_93 ?_
      refine v_iadd hc dX9_placeBy_94 ?_
      refine v_iald hc dX9_placeBy_95 fun x95 => ?_
      refine v_iload_n (i := 2) hc 3 rfl dX9_placeBy_96 rfl ?_
      refine v_cI hc (m_V' (As := [.int x95, .int v2]) (b := v0) (rest := []) 2 hc hr (fun l D tys base => ct9_factOf l D tys base h48 v0 x95 v2) (fun x hx => ob9_factOf hx) rfl s9_factOf w_1272 rfl ⟨Nat.le_of_ble_eq_true rfl, Nat.le_of_ble_eq_true rfl⟩ ⟨Nat.le_of_ble_eq_true rfl, Nat.le_of_ble_eq_true rfl⟩ (Nat.le_of_ble_eq_true rfl) dX9_placeBy_97) fun x97 => ?_
      exact v_iret hc hq rfl rfl (Nat.le_of_ble_eq_true rfl) (Nat.le_of_ble_eq_true rfl) rfl dX9_placeBy_100
    · refine v_iconst (x := (-1 : Int32)) hc dX9_placeBy_64 zi_m1 ?_
      refine v_goto hc 100 dX9_placeBy_65 rfl ?_
      exact v_iret hc hq rfl rfl (Nat.le_of_ble_eq_true rfl) (Nat.le_of_ble_eq_true rfl) rfl dX9_placeBy_100
def f9_placeBy (h : AH) (this : Nat) (p0 : Int32) (p1 : Int32) : Option (Int32 × AH) := (hObj 9 h this).bind fun _ => (fL 9 30 h this).bind fun x2 => (f9_drawn h x2).bind fun x5 => (fS 9 30 h this (.long x5)).bind fun h8 => (fL 9 30 h8 this).bind fun x12 => if (65536 : Int64) = 0 then none else (some (x12 / (65536 : Int64))).bind fun z18 => if (1000 : Int64) = 0 then none else (some (z18 - z18 / (1000 : Int64) * (1000 : Int64))).bind fun z22 => (fR 9 10 h8 this).bind fun x24 => (aI 0 h8 x24 p0).bind fun x28 => (if x28.toInt64 ≤ z22 then f9_placeBy_39 h8 this p0 p1 false else f9_placeBy_39 h8 this p0 p1 true)
theorem ob9_placeBy {h : AH} {this : Nat} {p0 : Int32} {p1 : Int32} {x : Int32 × AH} (e : f9_placeBy h this p0 p1 = some x) : ∃ fs, hObj 9 h this = some fs := by
  unfold f9_placeBy at e
  obtain ⟨fs, h1, -⟩ := bd e
  exact ⟨fs, h1⟩
set_option maxRecDepth 100000 in
theorem ct9_placeBy (l : Launch) (D : va_G) (tys : Tys) (base : Nat) (h : AH) (this : Nat) (p0 : Int32) (p1 : Int32) : Ct l D tys base yX9_placeBy cX9_placeBy 6 (some .int) 1 23 0 0 [.ref this, .int p0, .int p1] h (wI) (f9_placeBy h this p0 p1) := by
  refine Ct.intro (own := RX9) (L := [(0, .ref this), (1, .int p0), (2, .int p1)]) rfl (by decide) rfl (Nat.le_of_ble_eq_true rfl) fun κ hc hr hq hi hL => ?_
  have hn : ∀ i, i < 6 → i < κ.2.2.2.2.1 := fun i q => hL ▸ q
  unfold f9_placeBy
  refine v_obj ?_
  refine v_aload_n (i := 0) hc 0 rfl dX9_placeBy_0 rfl ?_
  refine v_aload_n (i := 0) hc 0 rfl dX9_placeBy_1 rfl ?_
  refine v_getV hc kX9 30 (by decide) w_1161 rfl dX9_placeBy_2 (gB rfl fun x2 => ?_)
  refine v_cL hc (m_S' (As := [.long x2]) (rest := [.ref this]) 1 hc hr (fun l D tys base => ct9_drawn l D tys base h x2) s9_drawn w_1548 rfl ⟨Nat.le_of_ble_eq_true rfl, Nat.le_of_ble_eq_true rfl⟩ ⟨Nat.le_of_ble_eq_true rfl, Nat.le_of_ble_eq_true rfl⟩ (Nat.le_of_ble_eq_true rfl) dX9_placeBy_5) fun x5 => ?_
  refine v_put hc kX9 30 (by decide) w_1161 rfl rfl dX9_placeBy_8 ⟨rfl, rfl⟩ fun h8 => ?_
  refine v_aload_n (i := 0) hc 0 rfl dX9_placeBy_11 rfl ?_
  refine v_getV hc kX9 30 (by decide) w_1161 rfl dX9_placeBy_12 (gB rfl fun x12 => ?_)
  refine v_ldc2 (x := (65536 : Int64)) hc w_1554 dX9_placeBy_15 ?_
  refine v_ldivN hc dX9_placeBy_18 fun z18 => ?_
  refine v_ldc2 (x := (1000 : Int64)) hc w_1535 dX9_placeBy_19 ?_
  refine v_lremN hc dX9_placeBy_22 fun z22 => ?_
  refine v_aload_n (i := 0) hc 0 rfl dX9_placeBy_23 rfl ?_
  refine v_getV hc kX9 10 (by decide) w_1141 rfl dX9_placeBy_24 (gR rfl fun x24 => ?_)
  refine v_iload_n (i := 1) hc 1 rfl dX9_placeBy_27 rfl ?_
  refine v_iald hc dX9_placeBy_28 fun x28 => ?_
  refine v_i2l hc dX9_placeBy_29 ?_
  refine v_lcmp_ge hc 38 dX9_placeBy_30 dX9_placeBy_31 rfl ?_ ?_
  · refine v_iconst (x := (0 : Int32)) hc dX9_placeBy_38 zi_0 ?_
    refine v_sub (L' := [(0, .ref this), (1, .int p0), (2, .int p1)]) [0, 1, 2] rfl ?_
    exact vl9_placeBy_39 hc hr hq hL h8 this p0 p1 false
  · refine v_iconst (x := (1 : Int32)) hc dX9_placeBy_34 zi_1 ?_
    refine v_goto hc 39 dX9_placeBy_35 rfl ?_
    refine v_sub (L' := [(0, .ref this), (1, .int p0), (2, .int p1)]) [0, 1, 2] rfl ?_
    exact vl9_placeBy_39 hc hr hq hL h8 this p0 p1 true
theorem s9_placeBy : YV yX9_placeBy RX9 cX9_placeBy 6 (some .int) 2 := ⟨w_1622, w_1621, w_102, w_118, rfl, by decide +kernel, by decide +kernel, by decide +kernel⟩
def f9_works_13 (v0 : Nat) (v1 : Int32) (v2 : Int32) (v3 : Int32) (v4 : Int32) (v6 : Bool) : Nat → AH → Int32 → Int32 → Option (Int32 × AH)
  | 0, _, _, _ => none
  | n + 1, h, v7, v8 => (if v4 ≤ v8 then some (v7, h) else (f9_placeBy h v0 v1 (v3 + v8)).bind fun x26 => (if x26.1 = (-1 : Int32) then (some (v8 + (1 : Int32))).bind fun x81 => f9_works_13 v0 v1 v2 v3 v4 v6 n x26.2 v7 x81 else (f9_isDay x26.2 (v3 + v8)).bind fun x41 => (if x41 = true then (f9_hasDay x26.2 v0 v2 (v3 + v8)).bind fun x53 => (if x53 = true then (some (v8 + (1 : Int32))).bind fun x81 => f9_works_13 v0 v1 v2 v3 v4 v6 n x26.2 v7 x81 else (some (v7 + (1 : Int32))).bind fun x62 => (if v6 = true then (f9_adds x26.2 v0 v2 (v3 + v8) x26.1).bind fun x78 => (some (v8 + (1 : Int32))).bind fun x81 => f9_works_13 v0 v1 v2 v3 v4 v6 n x78 x62 x81 else (some (v8 + (1 : Int32))).bind fun x81 => f9_works_13 v0 v1 v2 v3 v4 v6 n x26.2 x62 x81)) else (some (v8 + (1 : Int32))).bind fun x81 => f9_works_13 v0 v1 v2 v3 v4 v6 n x26.2 v7 x81)))
set_option maxRecDepth 100000 in
theorem vl9_works_13 {κ : Kx} (hc : CX κ RX9 cX9_works) (hr : RX κ ({ frames := 2, cells := 0, slots := 0, locals := 48 } : Room)) (hq : QX κ (some .int) 0 0) (hL : 10 = κ.2.2.2.2.1)  (v0 : Nat) (v1 : Int32) (v2 : Int32) (v3 : Int32) (v4 : Int32) (v6 : Bool) : ∀ n (h : AH) (v7 : Int32) (v8 : Int32), V κ (wI) 0 0 13 [(0, .ref v0), (1, .int v1), (2, .int v2), (3, .int v3), (4, .int v4), (6, .int (bI v6)), (7, .int v7), (8, .int v8)] [] h (f9_works_13 v0 v1 v2 v3 v4 v6 n h v7 v8) := by
  have hn : ∀ i, i < 10 → i < κ.2.2.2.2.1 := fun i q => hL ▸ q
  intro n
  induction n with
  | zero => intros; exact v_none
  | succ n ih =>
    intro h v7 v8
    rw [f9_works_13.eq_2]
    refine v_iload (i := 8) hc 7 rfl dX9_works_13 ?_
    refine v_iload (i := 4) hc 4 rfl dX9_works_15 ?_
    refine v_icmp_ge hc 87 dX9_works_17 rfl ?_ ?_
    · refine v_iload (i := 7) hc 6 rfl dX9_works_87 ?_
      exact v_iret hc hq rfl rfl (Nat.le_of_ble_eq_true rfl) (Nat.le_of_ble_eq_true rfl) rfl dX9_works_89
    · refine v_aload_n (i := 0) hc 0 rfl dX9_works_20 rfl ?_
      refine v_iload_n (i := 1) hc 1 rfl dX9_works_21 rfl ?_
      refine v_iload_n (i := 3) hc 3 rfl dX9_works_22 rfl ?_
      refine v_iload (i := 8) hc 7 rfl dX9_works_23 ?_
      refine v_iadd hc dX9_works_25 ?_
      refine v_cwI hc (m_V' (As := [.int v1, .int (v3 + v8)]) (b := v0) (rest := []) 2 hc hr (fun l D tys base => ct9_placeBy l D tys base h v0 v1 (v3 + v8)) (fun x hx => ob9_placeBy hx) rfl s9_placeBy w_1619 rfl ⟨Nat.le_of_ble_eq_true rfl, Nat.le_of_ble_eq_true rfl⟩ ⟨Nat.le_of_ble_eq_true rfl, Nat.le_of_ble_eq_true rfl⟩ (Nat.le_of_ble_eq_true rfl) dX9_works_26) fun x26 => ?_
      refine v_istore (i := 9) (L' := [(9, .int x26.1), (0, .ref v0), (1, .int v1), (2, .int v2), (3, .int v3), (4, .int v4), (6, .int (bI v6)), (7, .int v7), (8, .int v8)]) hc dX9_works_29 (hn 9 (Nat.le_of_ble_eq_true rfl)) rfl ?_
      refine v_iload (i := 9) hc 0 rfl dX9_works_31 ?_
      refine v_iconst (x := (-1 : Int32)) hc dX9_works_33 zi_m1 ?_
      refine v_icmp_eq hc 81 dX9_works_34 rfl ?_ ?_
      · refine v_iincN (i := 8) (y := (1 : Int32)) (L' := fun z => [(8, .int z), (9, .int x26.1), (0, .ref v0), (1, .int v1), (2, .int v2), (3, .int v3), (4, .int v4), (6, .int (bI v6)), (7, .int v7)]) hc 8 rfl dX9_works_81 zi_1 (hn 8 (Nat.le_of_ble_eq_true rfl)) (fun _ => rfl) fun x81 => ?_
        refine v_goto hc 13 dX9_works_84 rfl ?_
        refine v_sub (L' := [(0, .ref v0), (1, .int v1), (2, .int v2), (3, .int v3), (4, .int v4), (6, .int (bI v6)), (7, .int v7), (8, .int x81)]) [2, 3, 4, 5, 6, 7, 8, 0] rfl ?_
        exact ih x26.2 v7 x81
      · refine v_iload_n (i := 3) hc 4 rfl dX9_works_37 rfl ?_
        refine v_iload (i := 8) hc 8 rfl dX9_works_38 ?_
        refine v_iadd hc dX9_works_40 ?_
        refine v_cB hc (m_S' (As := [.int (v3 + v8)]) (rest := []) 1 hc hr (fun l D tys base => ct9_isDay l D tys base x26.2 (v3 + v8)) s9_isDay w_1260 rfl ⟨Nat.le_of_ble_eq_true rfl, Nat.le_of_ble_eq_true rfl⟩ ⟨Nat.le_of_ble_eq_true rfl, Nat.le_of_ble_eq_true rfl⟩ (Nat.le_of_ble_eq_true rfl) dX9_works_41) fun x41 => ?_
        refine v_ifb_eq hc 81 dX9_works_44 rfl ?_ ?_
        · refine v_iincN (i := 8) (y := (1 : Int32)) (L' := fun z => [(8, .int z), (9, .int x26.1), (0, .ref v0), (1, .int v1), (2, .int v2), (3, .int v3), (4, .int v4), (6, .int (bI v6)), (7, .int v7)]) hc 8 rfl dX9_works_81 zi_1 (hn 8 (Nat.le_of_ble_eq_true rfl)) (fun _ => rfl) fun x81 => ?_
          refine v_goto hc 13 dX9_works_84 rfl ?_
          refine v_sub (L' := [(0, .ref v0), (1, .int v1), (2, .int v2), (3, .int v3), (4, .int v4), (6, .int (bI v6)), (7, .int v7), (8, .int x81)]) [2, 3, 4, 5, 6, 7, 8, 0] rfl ?_
          exact ih x26.2 v7 x81
        · refine v_aload_n (i := 0) hc 1 rfl dX9_works_47 rfl ?_
          refine v_iload_n (i := 2) hc 3 rfl dX9_works_48 rfl ?_
          refine v_iload_n (i := 3) hc 4 rfl dX9_works_49 rfl ?_
          refine v_iload (i := 8) hc 8 rfl dX9_works_50 ?_
          refine v_iadd hc dX9_works_52 ?_
          refine v_cB hc (m_V' (As := [.int v2, .int (v3 + v8)]) (b := v0) (rest := []) 2 hc hr (fun l D tys base => ct9_hasDay l D tys base x26.2 v0 v2 (v3 + v8)) (fun x hx => ob9_hasDay hx) rfl s9_hasDay w_1290 rfl ⟨Nat.le_of_ble_eq_true rfl, Nat.le_of_ble_eq_true rfl⟩ ⟨Nat.le_of_ble_eq_true rfl, Nat.le_of_ble_eq_true rfl⟩ (Nat.le_of_ble_eq_true rfl) dX9_works_53) fun x53 => ?_
          refine v_ifb_eq hc 62 dX9_works_56 rfl ?_ ?_
          · refine v_iincN (i := 7) (y := (1 : Int32)) (L' := fun z => [(7, .int z), (9, .int x26.1), (0, .ref v0), (1, .int v1), (2, .int v2), (3, .int v3), (4, .int v4), (6, .int (bI v6)), (8, .int v8)]) hc 7 rfl dX9_works_62 zi_1 (hn 7 (Nat.le_of_ble_eq_true rfl)) (fun _ => rfl) fun x62 => ?_
            refine v_iload (i := 6) hc 7 rfl dX9_works_65 ?_
            refine v_ifb_eq hc 81 dX9_works_67 rfl ?_ ?_
            · refine v_iincN (i := 8) (y := (1 : Int32)) (L' := fun z => [(8, .int z), (7, .int x62), (9, .int x26.1), (0, .ref v0), (1, .int v1), (2, .int v2), (3, .int v3), (4, .int v4), (6, .int (bI v6))]) hc 8 rfl dX9_works_81 zi_1 (hn 8 (Nat.le_of_ble_eq_true rfl)) (fun _ => rfl) fun x81 => ?_
              refine v_goto hc 13 dX9_works_84 rfl ?_
              refine v_sub (L' := [(0, .ref v0), (1, .int v1), (2, .int v2), (3, .int v3), (4, .int v4), (6, .int (bI v6)), (7, .int x62), (8, .int x81)]) [3, 4, 5, 6, 7, 8, 1, 0] rfl ?_
              exact ih x26.2 x62 x81
            · refine v_aload_n (i := 0) hc 2 rfl dX9_works_70 rfl ?_
              refine v_iload_n (i := 2) hc 4 rfl dX9_works_71 rfl ?_
              refine v_iload_n (i := 3) hc 5 rfl dX9_works_72 rfl ?_
              refine v_iload (i := 8) hc 8 rfl dX9_works_73 ?_
              refine v_iadd hc dX9_works_75 ?_
              refine v_iload (i := 9) hc 1 rfl dX9_works_76 ?_
              refine v_cV hc (m_V' (As := [.int v2, .int (v3 + v8), .int x26.1]) (b := v0) (rest := []) 3 hc hr (fun l D tys base => ct9_adds l D tys base x26.2 v0 v2 (v3 + v8) x26.1) (fun x hx => ob9_adds hx) rfl s9_adds w_1294 rfl ⟨Nat.le_of_ble_eq_true rfl, Nat.le_of_ble_eq_true rfl⟩ ⟨Nat.le_of_ble_eq_true rfl, Nat.le_of_ble_eq_true rfl⟩ (Nat.le_of_ble_eq_true rfl) dX9_works_78) fun x78 => ?_
              refine v_iincN (i := 8) (y := (1 : Int32)) (L' := fun z => [(8, .int z), (7, .int x62), (9, .int x26.1), (0, .ref v0), (1, .int v1), (2, .int v2), (3, .int v3), (4, .int v4), (6, .int (bI v6))]) hc 8 rfl dX9_works_81 zi_1 (hn 8 (Nat.le_of_ble_eq_true rfl)) (fun _ => rfl) fun x81 => ?_
              refine v_goto hc 13 dX9_works_84 rfl ?_
              refine v_sub (L' := [(0, .ref v0), (1, .int v1), (2, .int v2), (3, .int v3), (4, .int v4), (6, .int (bI v6)), (7, .int x62), (8, .int x81)]) [3, 4, 5, 6, 7, 8, 1, 0] rfl ?_
              exact ih x78 x62 x81
          · refine v_goto hc 81 dX9_works_59 rfl ?_
            refine v_iincN (i := 8) (y := (1 : Int32)) (L' := fun z => [(8, .int z), (9, .int x26.1), (0, .ref v0), (1, .int v1), (2, .int v2), (3, .int v3), (4, .int v4), (6, .int (bI v6)), (7, .int v7)]) hc 8 rfl dX9_works_81 zi_1 (hn 8 (Nat.le_of_ble_eq_true rfl)) (fun _ => rfl) fun x81 => ?_
            refine v_goto hc 13 dX9_works_84 rfl ?_
            refine v_sub (L' := [(0, .ref v0), (1, .int v1), (2, .int v2), (3, .int v3), (4, .int v4), (6, .int (bI v6)), (7, .int v7), (8, .int x81)]) [2, 3, 4, 5, 6, 7, 8, 0] rfl ?_
            exact ih x26.2 v7 x81
def f9_works (h : AH) (this : Nat) (p0 : Int32) (p1 : Int32) (p2 : Int32) (p3 : Int32) (p4 : Int32) (p5 : Bool) : Option (Int32 × AH) := (hObj 9 h this).bind fun _ => (fS 9 30 h this (.long p4.toInt64)).bind fun h4 => f9_works_13 this p0 p1 p2 p3 p5 FU h4 (0 : Int32) (0 : Int32)
theorem ob9_works {h : AH} {this : Nat} {p0 : Int32} {p1 : Int32} {p2 : Int32} {p3 : Int32} {p4 : Int32} {p5 : Bool} {x : Int32 × AH} (e : f9_works h this p0 p1 p2 p3 p4 p5 = some x) : ∃ fs, hObj 9 h this = some fs := by
  unfold f9_works at e
  obtain ⟨fs, h1, -⟩ := bd e
  exact ⟨fs, h1⟩
set_option maxRecDepth 100000 in
theorem ct9_works (l : Launch) (D : va_G) (tys : Tys) (base : Nat) (h : AH) (this : Nat) (p0 : Int32) (p1 : Int32) (p2 : Int32) (p3 : Int32) (p4 : Int32) (p5 : Bool) : Ct l D tys base yX9_works cX9_works 10 (some .int) 2 48 0 0 [.ref this, .int p0, .int p1, .int p2, .int p3, .int p4, .int (bI p5)] h (wI) (f9_works h this p0 p1 p2 p3 p4 p5) := by
  refine Ct.intro (own := RX9) (L := [(0, .ref this), (1, .int p0), (2, .int p1), (3, .int p2), (4, .int p3), (5, .int p4), (6, .int (bI p5))]) rfl (by decide) rfl (Nat.le_of_ble_eq_true rfl) fun κ hc hr hq hi hL => ?_
  have hn : ∀ i, i < 10 → i < κ.2.2.2.2.1 := fun i q => hL ▸ q
  unfold f9_works
  refine v_obj ?_
  refine v_aload_n (i := 0) hc 0 rfl dX9_works_0 rfl ?_
  refine v_iload (i := 5) hc 5 rfl dX9_works_1 ?_
  refine v_i2l hc dX9_works_3 ?_
  refine v_put hc kX9 30 (by decide) w_1161 rfl rfl dX9_works_4 ⟨rfl, rfl⟩ fun h4 => ?_
  refine v_iconst (x := (0 : Int32)) hc dX9_works_7 zi_0 ?_
  refine v_istore (i := 7) (L' := [(7, .int (0 : Int32)), (0, .ref this), (1, .int p0), (2, .int p1), (3, .int p2), (4, .int p3), (5, .int p4), (6, .int (bI p5))]) hc dX9_works_8 (hn 7 (Nat.le_of_ble_eq_true rfl)) rfl ?_
  refine v_iconst (x := (0 : Int32)) hc dX9_works_10 zi_0 ?_
  refine v_istore (i := 8) (L' := [(8, .int (0 : Int32)), (7, .int (0 : Int32)), (0, .ref this), (1, .int p0), (2, .int p1), (3, .int p2), (4, .int p3), (5, .int p4), (6, .int (bI p5))]) hc dX9_works_11 (hn 8 (Nat.le_of_ble_eq_true rfl)) rfl ?_
  refine v_sub (L' := [(0, .ref this), (1, .int p0), (2, .int p1), (3, .int p2), (4, .int p3), (6, .int (bI p5)), (7, .int (0 : Int32)), (8, .int (0 : Int32))]) [2, 3, 4, 5, 6, 8, 1, 0] rfl ?_
  exact vl9_works_13 hc hr hq hL this p0 p1 p2 p3 p5 FU h4 (0 : Int32) (0 : Int32)
theorem s9_works : YV yX9_works RX9 cX9_works 10 (some .int) 6 := ⟨w_1618, w_1617, w_101, w_118, rfl, by decide +kernel, by decide +kernel, by decide +kernel⟩
def f9_make (h : AH) (this : Nat) (p0 : Int32) (p1 : Int32) (p2 : Int32) (p3 : Int32) (p4 : Int32) : Option (Int32 × AH) := (hObj 9 h this).bind fun _ => (f9_isMaker h this p0).bind fun x2 => (if x2 = true then (f9_isPiece h this p1).bind fun x10 => (if x10 = true then (f9_isDay h p2).bind fun x17 => (if x17 = true then (f9_in h p3.toInt64 (1 : Int64) (60 : Int64)).bind fun x30 => (if x30 = true then (if 0 ≤ p4 then (some ((8 : Int32) + p0)).bind fun x47 => (fR 9 13 h this).bind fun x50 => (aI 0 h x50 x47).bind fun x55 => (fR 9 0 h this).bind fun x57 => (aI 0 h x57 (1 : Int32)).bind fun x61 => (if (x55 >>> (x61 &&& 31)) = 0 then (fR 9 0 h this).bind fun x67 => (aI 0 h x67 (5 : Int32)).bind fun x71 => (f9_works h this x47 p1 p2 p3 p4 false).bind fun x82 => (if (x71 + x82.1) ≤ (400 : Int32) then (fR 9 0 x82.2 this).bind fun x95 => (aI 0 x82.2 x95 (((1330 : Int32) + ((10 : Int32) * p1)) + (6 : Int32))).bind fun x110 => (fR 9 13 x82.2 this).bind fun x112 => (aI 0 x82.2 x112 x47).bind fun x117 => (sI 0 x82.2 x95 (((1330 : Int32) + ((10 : Int32) * p1)) + (6 : Int32)) (x110 ||| x117)).bind fun h119 => (f9_works h119 this x47 p1 p2 p3 p4 true).bind fun x130 => some (x130.1, x130.2) else some ((-1 : Int32), x82.2)) else some ((-1 : Int32), h)) else some ((-1 : Int32), h)) else some ((-1 : Int32), h)) else some ((-1 : Int32), h)) else some ((-1 : Int32), h)) else some ((-1 : Int32), h))
theorem ob9_make {h : AH} {this : Nat} {p0 : Int32} {p1 : Int32} {p2 : Int32} {p3 : Int32} {p4 : Int32} {x : Int32 × AH} (e : f9_make h this p0 p1 p2 p3 p4 = some x) : ∃ fs, hObj 9 h this = some fs := by
  unfold f9_make at e
  obtain ⟨fs, h1, -⟩ := bd e
  exact ⟨fs, h1⟩
set_option maxRecDepth 100000 in
theorem ct9_make (l : Launch) (D : va_G) (tys : Tys) (base : Nat) (h : AH) (this : Nat) (p0 : Int32) (p1 : Int32) (p2 : Int32) (p3 : Int32) (p4 : Int32) : Ct l D tys base yX9_make cX9_make 7 (some .int) 3 77 0 0 [.ref this, .int p0, .int p1, .int p2, .int p3, .int p4] h (wI) (f9_make h this p0 p1 p2 p3 p4) := by
  refine Ct.intro (own := RX9) (L := [(0, .ref this), (1, .int p0), (2, .int p1), (3, .int p2), (4, .int p3), (5, .int p4)]) rfl (by decide) rfl (Nat.le_of_ble_eq_true rfl) fun κ hc hr hq hi hL => ?_
  have hn : ∀ i, i < 7 → i < κ.2.2.2.2.1 := fun i q => hL ▸ q
  unfold f9_make
  refine v_obj ?_
  refine v_aload_n (i := 0) hc 0 rfl dX9_make_0 rfl ?_
  refine v_iload_n (i := 1) hc 1 rfl dX9_make_1 rfl ?_
  refine v_cB hc (m_V' (As := [.int p0]) (b := this) (rest := []) 1 hc hr (fun l D tys base => ct9_isMaker l D tys base h this p0) (fun x hx => ob9_isMaker hx) rfl s9_isMaker w_1602 rfl ⟨Nat.le_of_ble_eq_true rfl, Nat.le_of_ble_eq_true rfl⟩ ⟨Nat.le_of_ble_eq_true rfl, Nat.le_of_ble_eq_true rfl⟩ (Nat.le_of_ble_eq_true rfl) dX9_make_2) fun x2 => ?_
  refine v_ifb_eq hc 41 dX9_make_5 rfl ?_ ?_
  · refine v_iconst (x := (-1 : Int32)) hc dX9_make_41 zi_m1 ?_
    exact v_iret hc hq rfl rfl (Nat.le_of_ble_eq_true rfl) (Nat.le_of_ble_eq_true rfl) rfl dX9_make_42
  · refine v_aload_n (i := 0) hc 0 rfl dX9_make_8 rfl ?_
    refine v_iload_n (i := 2) hc 2 rfl dX9_make_9 rfl ?_
    refine v_cB hc (m_V' (As := [.int p1]) (b := this) (rest := []) 1 hc hr (fun l D tys base => ct9_isPiece l D tys base h this p1) (fun x hx => ob9_isPiece hx) rfl s9_isPiece w_1286 rfl ⟨Nat.le_of_ble_eq_true rfl, Nat.le_of_ble_eq_true rfl⟩ ⟨Nat.le_of_ble_eq_true rfl, Nat.le_of_ble_eq_true rfl⟩ (Nat.le_of_ble_eq_true rfl) dX9_make_10) fun x10 => ?_
    refine v_ifb_eq hc 41 dX9_make_13 rfl ?_ ?_
    · refine v_iconst (x := (-1 : Int32)) hc dX9_make_41 zi_m1 ?_
      exact v_iret hc hq rfl rfl (Nat.le_of_ble_eq_true rfl) (Nat.le_of_ble_eq_true rfl) rfl dX9_make_42
    · refine v_iload_n (i := 3) hc 3 rfl dX9_make_16 rfl ?_
      refine v_cB hc (m_S' (As := [.int p2]) (rest := []) 1 hc hr (fun l D tys base => ct9_isDay l D tys base h p2) s9_isDay w_1260 rfl ⟨Nat.le_of_ble_eq_true rfl, Nat.le_of_ble_eq_true rfl⟩ ⟨Nat.le_of_ble_eq_true rfl, Nat.le_of_ble_eq_true rfl⟩ (Nat.le_of_ble_eq_true rfl) dX9_make_17) fun x17 => ?_
      refine v_ifb_eq hc 41 dX9_make_20 rfl ?_ ?_
      · refine v_iconst (x := (-1 : Int32)) hc dX9_make_41 zi_m1 ?_
        exact v_iret hc hq rfl rfl (Nat.le_of_ble_eq_true rfl) (Nat.le_of_ble_eq_true rfl) rfl dX9_make_42
      · refine v_iload (i := 4) hc 4 rfl dX9_make_23 ?_
        refine v_i2l hc dX9_make_25 ?_
        refine v_lconst (x := (1 : Int64)) hc dX9_make_26 (by decide) ?_
        refine v_ldc2 (x := (60 : Int64)) hc w_1614 dX9_make_27 ?_
        refine v_cB hc (m_S' (As := [.long p3.toInt64, .long (1 : Int64), .long (60 : Int64)]) (rest := []) 3 hc hr (fun l D tys base => ct9_in l D tys base h p3.toInt64 (1 : Int64) (60 : Int64)) s9_in w_1246 rfl ⟨Nat.le_of_ble_eq_true rfl, Nat.le_of_ble_eq_true rfl⟩ ⟨Nat.le_of_ble_eq_true rfl, Nat.le_of_ble_eq_true rfl⟩ (Nat.le_of_ble_eq_true rfl) dX9_make_30) fun x30 => ?_
        refine v_ifb_eq hc 41 dX9_make_33 rfl ?_ ?_
        · refine v_iconst (x := (-1 : Int32)) hc dX9_make_41 zi_m1 ?_
          exact v_iret hc hq rfl rfl (Nat.le_of_ble_eq_true rfl) (Nat.le_of_ble_eq_true rfl) rfl dX9_make_42
        · refine v_iload (i := 5) hc 5 rfl dX9_make_36 ?_
          refine v_if_ge hc 43 dX9_make_38 rfl ?_ ?_
          · refine v_bipush (x := (8 : Int32)) hc dX9_make_43 zb_8 ?_
            refine v_iload_n (i := 1) hc 1 rfl dX9_make_45 rfl ?_
            refine v_iadd hc dX9_make_46 ?_
            refine v_nmI fun x47 => ?_
            refine v_istore (i := 6) (L' := [(6, .int x47), (0, .ref this), (1, .int p0), (2, .int p1), (3, .int p2), (4, .int p3), (5, .int p4)]) hc dX9_make_47 (hn 6 (Nat.le_of_ble_eq_true rfl)) rfl ?_
            refine v_aload_n (i := 0) hc 1 rfl dX9_make_49 rfl ?_
            refine v_getV hc kX9 13 (by decide) w_1144 rfl dX9_make_50 (gR rfl fun x50 => ?_)
            refine v_iload (i := 6) hc 0 rfl dX9_make_53 ?_
            refine v_iald hc dX9_make_55 fun x55 => ?_
            refine v_aload_n (i := 0) hc 1 rfl dX9_make_56 rfl ?_
            refine v_getV hc kX9 0 (by decide) w_1131 rfl dX9_make_57 (gR rfl fun x57 => ?_)
            refine v_iconst (x := (1 : Int32)) hc dX9_make_60 zi_1 ?_
            refine v_iald hc dX9_make_61 fun x61 => ?_
            refine v_ishr hc dX9_make_62 ?_
            refine v_if_ne hc 92 dX9_make_63 rfl ?_ ?_
            · refine v_iconst (x := (-1 : Int32)) hc dX9_make_92 zi_m1 ?_
              exact v_iret hc hq rfl rfl (Nat.le_of_ble_eq_true rfl) (Nat.le_of_ble_eq_true rfl) rfl dX9_make_93
            · refine v_aload_n (i := 0) hc 1 rfl dX9_make_66 rfl ?_
              refine v_getV hc kX9 0 (by decide) w_1131 rfl dX9_make_67 (gR rfl fun x67 => ?_)
              refine v_iconst (x := (5 : Int32)) hc dX9_make_70 zi_5 ?_
              refine v_iald hc dX9_make_71 fun x71 => ?_
              refine v_aload_n (i := 0) hc 1 rfl dX9_make_72 rfl ?_
              refine v_iload (i := 6) hc 0 rfl dX9_make_73 ?_
              refine v_iload_n (i := 2) hc 3 rfl dX9_make_75 rfl ?_
              refine v_iload_n (i := 3) hc 4 rfl dX9_make_76 rfl ?_
              refine v_iload (i := 4) hc 5 rfl dX9_make_77 ?_
              refine v_iload (i := 5) hc 6 rfl dX9_make_79 ?_
              refine v_iconst (x := (0 : Int32)) hc dX9_make_81 zi_0 ?_
              refine v_cwI hc (m_V' (As := [.int x47, .int p1, .int p2, .int p3, .int p4, .int (bI false)]) (b := this) (rest := [.int x71]) 6 hc hr (fun l D tys base => ct9_works l D tys base h this x47 p1 p2 p3 p4 false) (fun x hx => ob9_works hx) rfl s9_works w_1615 rfl ⟨Nat.le_of_ble_eq_true rfl, Nat.le_of_ble_eq_true rfl⟩ ⟨Nat.le_of_ble_eq_true rfl, Nat.le_of_ble_eq_true rfl⟩ (Nat.le_of_ble_eq_true rfl) dX9_make_82) fun x82 => ?_
              refine v_iadd hc dX9_make_85 ?_
              refine v_sipush (x := (400 : Int32)) hc dX9_make_86 zs_400 ?_
              refine v_icmp_le hc 94 dX9_make_89 rfl ?_ ?_
              · refine v_aload_n (i := 0) hc 1 rfl dX9_make_94 rfl ?_
                refine v_getV hc kX9 0 (by decide) w_1131 rfl dX9_make_95 (gR rfl fun x95 => ?_)
                refine v_sipush (x := (1330 : Int32)) hc dX9_make_98 zs_1330 ?_
                refine v_bipush (x := (10 : Int32)) hc dX9_make_101 zb_10 ?_
                refine v_iload_n (i := 2) hc 3 rfl dX9_make_103 rfl ?_
                refine v_imul hc dX9_make_104 ?_
                refine v_iadd hc dX9_make_105 ?_
                refine v_bipush (x := (6 : Int32)) hc dX9_make_106 zb_6 ?_
                refine v_iadd hc dX9_make_108 ?_
                refine v_dup2 hc dX9_make_109 rfl rfl ?_
                refine v_iald hc dX9_make_110 fun x110 => ?_
                refine v_aload_n (i := 0) hc 1 rfl dX9_make_111 rfl ?_
                refine v_getV hc kX9 13 (by decide) w_1144 rfl dX9_make_112 (gR rfl fun x112 => ?_)
                refine v_iload (i := 6) hc 0 rfl dX9_make_115 ?_
                refine v_iald hc dX9_make_117 fun x117 => ?_
                refine v_ior hc dX9_make_118 ?_
                refine v_iast hc dX9_make_119 fun h119 => ?_
                refine v_aload_n (i := 0) hc 1 rfl dX9_make_120 rfl ?_
                refine v_iload (i := 6) hc 0 rfl dX9_make_121 ?_
                refine v_iload_n (i := 2) hc 3 rfl dX9_make_123 rfl ?_
                refine v_iload_n (i := 3) hc 4 rfl dX9_make_124 rfl ?_
                refine v_iload (i := 4) hc 5 rfl dX9_make_125 ?_
                refine v_iload (i := 5) hc 6 rfl dX9_make_127 ?_
                refine v_iconst (x := (1 : Int32)) hc dX9_make_129 zi_1 ?_
                refine v_cwI hc (m_V' (As := [.int x47, .int p1, .int p2, .int p3, .int p4, .int (bI true)]) (b := this) (rest := []) 6 hc hr (fun l D tys base => ct9_works l D tys base h119 this x47 p1 p2 p3 p4 true) (fun x hx => ob9_works hx) rfl s9_works w_1615 rfl ⟨Nat.le_of_ble_eq_true rfl, Nat.le_of_ble_eq_true rfl⟩ ⟨Nat.le_of_ble_eq_true rfl, Nat.le_of_ble_eq_true rfl⟩ (Nat.le_of_ble_eq_true rfl) dX9_make_130) fun x130 => ?_
                exact v_iret hc hq rfl rfl (Nat.le_of_ble_eq_true rfl) (Nat.le_of_ble_eq_true rfl) rfl dX9_make_133
              · refine v_iconst (x := (-1 : Int32)) hc dX9_make_92 zi_m1 ?_
                exact v_iret hc hq rfl rfl (Nat.le_of_ble_eq_true rfl) (Nat.le_of_ble_eq_true rfl) rfl dX9_make_93
          · refine v_iconst (x := (-1 : Int32)) hc dX9_make_41 zi_m1 ?_
            exact v_iret hc hq rfl rfl (Nat.le_of_ble_eq_true rfl) (Nat.le_of_ble_eq_true rfl) rfl dX9_make_42
theorem s9_make : YV yX9_make RX9 cX9_make 7 (some .int) 5 := ⟨w_1613, w_1611, w_1612, w_118, rfl, by decide +kernel, by decide +kernel, by decide +kernel⟩
def f9_bits_4 (h : AH) : Nat → Int32 → Int32 → Option (Int32)
  | 0, _, _ => none
  | n + 1, v1, v2 => (if v2 = 0 then some v1 else (some (v1 + (1 : Int32))).bind fun x8 => (some (v2 &&& (v2 - (1 : Int32)))).bind fun x16 => f9_bits_4 h n x8 x16)
set_option maxRecDepth 100000 in
theorem vl9_bits_4 {κ : Kx} (hc : CX κ RX9 cX9_bits) (hr : RX κ ({ frames := 0, cells := 0, slots := 0, locals := 0 } : Room)) (hq : QX κ (some .int) 0 0) (hL : 3 = κ.2.2.2.2.1)  (h : AH) : ∀ n (v1 : Int32) (v2 : Int32), V κ (rI h) 0 0 4 [(1, .int v1), (2, .int v2)] [] h (f9_bits_4 h n v1 v2) := by
  have hn : ∀ i, i < 3 → i < κ.2.2.2.2.1 := fun i q => hL ▸ q
  intro n
  induction n with
  | zero => intros; exact v_none
  | succ n ih =>
    intro v1 v2
    rw [f9_bits_4.eq_2]
    refine v_iload_n (i := 2) hc 1 rfl dX9_bits_4 rfl ?_
    refine v_if_eq hc 20 dX9_bits_5 rfl ?_ ?_
    · refine v_iload_n (i := 1) hc 0 rfl dX9_bits_20 rfl ?_
      exact v_iret hc hq rfl rfl (Nat.le_of_ble_eq_true rfl) (Nat.le_of_ble_eq_true rfl) rfl dX9_bits_21
    · refine v_iincN (i := 1) (y := (1 : Int32)) (L' := fun z => [(1, .int z), (2, .int v2)]) hc 0 rfl dX9_bits_8 zi_1 (hn 1 (Nat.le_of_ble_eq_true rfl)) (fun _ => rfl) fun x8 => ?_
      refine v_iload_n (i := 2) hc 1 rfl dX9_bits_11 rfl ?_
      refine v_iload_n (i := 2) hc 1 rfl dX9_bits_12 rfl ?_
      refine v_iconst (x := (1 : Int32)) hc dX9_bits_13 zi_1 ?_
      refine v_isub hc dX9_bits_14 ?_
      refine v_iand hc dX9_bits_15 ?_
      refine v_nmI fun x16 => ?_
      refine v_istore_n (i := 2) (L' := [(2, .int x16), (1, .int x8)]) hc dX9_bits_16 rfl (hn 2 (Nat.le_of_ble_eq_true rfl)) rfl ?_
      refine v_goto hc 4 dX9_bits_17 rfl ?_
      refine v_sub (L' := [(1, .int x8), (2, .int x16)]) [1, 0] rfl ?_
      exact ih x8 x16
def f9_bits (h : AH) (p0 : Int32) : Option (Int32) := f9_bits_4 h FU (0 : Int32) p0
set_option maxRecDepth 100000 in
theorem ct9_bits (l : Launch) (D : va_G) (tys : Tys) (base : Nat) (h : AH) (p0 : Int32) : Ct l D tys base yX9_bits cX9_bits 3 (some .int) 0 0 0 0 [.int p0] h (rI h) (f9_bits h p0) := by
  refine Ct.intro (own := RX9) (L := [(0, .int p0)]) rfl (by decide) rfl (Nat.le_of_ble_eq_true rfl) fun κ hc hr hq hi hL => ?_
  have hn : ∀ i, i < 3 → i < κ.2.2.2.2.1 := fun i q => hL ▸ q
  unfold f9_bits
  refine v_iconst (x := (0 : Int32)) hc dX9_bits_0 zi_0 ?_
  refine v_istore_n (i := 1) (L' := [(1, .int (0 : Int32)), (0, .int p0)]) hc dX9_bits_1 rfl (hn 1 (Nat.le_of_ble_eq_true rfl)) rfl ?_
  refine v_iload_n (i := 0) hc 1 rfl dX9_bits_2 rfl ?_
  refine v_istore_n (i := 2) (L' := [(2, .int p0), (1, .int (0 : Int32)), (0, .int p0)]) hc dX9_bits_3 rfl (hn 2 (Nat.le_of_ble_eq_true rfl)) rfl ?_
  refine v_sub (L' := [(1, .int (0 : Int32)), (2, .int p0)]) [1, 0] rfl ?_
  exact vl9_bits_4 hc hr hq hL h FU (0 : Int32) p0
theorem s9_bits : YS yX9_bits cX9_bits 3 (some .int) 1 := ⟨w_1629, w_1628, w_118, by decide +kernel, by decide +kernel, by decide +kernel⟩
def f9_waitOf_27 (k8 : Int64 → Int64 → Int32 → Option (Int64)) (h : AH) (v0 : Nat) (v1 : Int32) (v4 : Int64) (v6 : Int32) (s0 : Int64) (s1 : Int64) : Option (Int64) := (fR 9 7 h v0).bind fun x29 => (fR 9 31 h v0).bind fun x33 => (aI 0 h x33 v6).bind fun x38 => (aI 0 h x29 x38).bind fun x39 => (some ((s0 * s1) + (x39.toInt64 * v4))).bind fun x45 => (fR 9 33 h v0).bind fun x49 => (fR 9 31 h v0).bind fun x53 => (aI 0 h x53 v6).bind fun x58 => (aI 0 h x49 x58).bind fun x59 => (some (v4 * x59.toInt64)).bind fun x62 => (some (v6 + (1 : Int32))).bind fun x64 => k8 x45 x62 x64
set_option maxRecDepth 100000 in
theorem vl9_waitOf_27 {κ : Kx} (hc : CX κ RX9 cX9_waitOf) (hr : RX κ ({ frames := 0, cells := 0, slots := 0, locals := 0 } : Room)) (hq : QX κ (some .long) 0 0) (hL : 7 = κ.2.2.2.2.1) (k8 : Int64 → Int64 → Int32 → Option (Int64)) (h : AH) (v0 : Nat) (v1 : Int32) (hk8 : ∀ (v2 : Int64) (v4 : Int64) (v6 : Int32), V κ (rL h) 0 0 8 [(0, .ref v0), (1, .int v1), (2, .long v2), (4, .long v4), (6, .int v6)] [] h (k8 v2 v4 v6)) (v4 : Int64) (v6 : Int32) (s0 : Int64) (s1 : Int64) : V κ (rL h) 0 0 27 [(0, .ref v0), (1, .int v1), (4, .long v4), (6, .int v6)] [.long s1, .long s0] h (f9_waitOf_27 k8 h v0 v1 v4 v6 s0 s1) := by
  have hn : ∀ i, i < 7 → i < κ.2.2.2.2.1 := fun i q => hL ▸ q
  unfold f9_waitOf_27
  refine v_lmul hc dX9_waitOf_27 ?_
  refine v_aload_n (i := 0) hc 0 rfl dX9_waitOf_28 rfl ?_
  refine v_getV hc kX9 7 (by decide) w_1138 rfl dX9_waitOf_29 (gR rfl fun x29 => ?_)
  refine v_aload_n (i := 0) hc 0 rfl dX9_waitOf_32 rfl ?_
  refine v_getV hc kX9 31 (by decide) w_1162 rfl dX9_waitOf_33 (gR rfl fun x33 => ?_)
  refine v_iload (i := 6) hc 3 rfl dX9_waitOf_36 ?_
  refine v_iald hc dX9_waitOf_38 fun x38 => ?_
  refine v_iald hc dX9_waitOf_39 fun x39 => ?_
  refine v_i2l hc dX9_waitOf_40 ?_
  refine v_lload (i := 4) hc 2 rfl dX9_waitOf_41 ?_
  refine v_lmul hc dX9_waitOf_43 ?_
  refine v_ladd hc dX9_waitOf_44 ?_
  refine v_nmL fun x45 => ?_
  refine v_lstore_n (i := 2) (L' := [(2, .long x45), (0, .ref v0), (1, .int v1), (4, .long v4), (6, .int v6)]) hc dX9_waitOf_45 rfl (hn 3 (Nat.le_of_ble_eq_true rfl)) rfl ?_
  refine v_lload (i := 4) hc 3 rfl dX9_waitOf_46 ?_
  refine v_aload_n (i := 0) hc 1 rfl dX9_waitOf_48 rfl ?_
  refine v_getV hc kX9 33 (by decide) w_1164 rfl dX9_waitOf_49 (gR rfl fun x49 => ?_)
  refine v_aload_n (i := 0) hc 1 rfl dX9_waitOf_52 rfl ?_
  refine v_getV hc kX9 31 (by decide) w_1162 rfl dX9_waitOf_53 (gR rfl fun x53 => ?_)
  refine v_iload (i := 6) hc 4 rfl dX9_waitOf_56 ?_
  refine v_iald hc dX9_waitOf_58 fun x58 => ?_
  refine v_iald hc dX9_waitOf_59 fun x59 => ?_
  refine v_i2l hc dX9_waitOf_60 ?_
  refine v_lmul hc dX9_waitOf_61 ?_
  refine v_nmL fun x62 => ?_
  refine v_lstore (i := 4) (L' := [(4, .long x62), (2, .long x45), (0, .ref v0), (1, .int v1), (6, .int v6)]) hc dX9_waitOf_62 (hn 5 (Nat.le_of_ble_eq_true rfl)) rfl ?_
  refine v_iincN (i := 6) (y := (1 : Int32)) (L' := fun z => [(6, .int z), (4, .long x62), (2, .long x45), (0, .ref v0), (1, .int v1)]) hc 4 rfl dX9_waitOf_64 zi_1 (hn 6 (Nat.le_of_ble_eq_true rfl)) (fun _ => rfl) fun x64 => ?_
  refine v_goto hc 8 dX9_waitOf_67 rfl ?_
  refine v_sub (L' := [(0, .ref v0), (1, .int v1), (2, .long x45), (4, .long x62), (6, .int x64)]) [3, 4, 2, 1, 0] rfl ?_
  exact hk8 x45 x62 x64
def f9_waitOf_8 (h : AH) (v0 : Nat) (v1 : Int32) : Nat → Int64 → Int64 → Int32 → Option (Int64)
  | 0, _, _, _ => none
  | n + 1, v2, v4, v6 => (if v1 ≤ v6 then some v2 else (if v6 ≤ 0 then f9_waitOf_27 (fun v2 v4 v6 => f9_waitOf_8 h v0 v1 n v2 v4 v6) h v0 v1 v4 v6 (1000 : Int64) (0 : Int64) else f9_waitOf_27 (fun v2 v4 v6 => f9_waitOf_8 h v0 v1 n v2 v4 v6) h v0 v1 v4 v6 (1000 : Int64) v2))
set_option maxRecDepth 100000 in
theorem vl9_waitOf_8 {κ : Kx} (hc : CX κ RX9 cX9_waitOf) (hr : RX κ ({ frames := 0, cells := 0, slots := 0, locals := 0 } : Room)) (hq : QX κ (some .long) 0 0) (hL : 7 = κ.2.2.2.2.1)  (h : AH) (v0 : Nat) (v1 : Int32) : ∀ n (v2 : Int64) (v4 : Int64) (v6 : Int32), V κ (rL h) 0 0 8 [(0, .ref v0), (1, .int v1), (2, .long v2), (4, .long v4), (6, .int v6)] [] h (f9_waitOf_8 h v0 v1 n v2 v4 v6) := by
  have hn : ∀ i, i < 7 → i < κ.2.2.2.2.1 := fun i q => hL ▸ q
  intro n
  induction n with
  | zero => intros; exact v_none
  | succ n ih =>
    intro v2 v4 v6
    rw [f9_waitOf_8.eq_2]
    refine v_iload (i := 6) hc 4 rfl dX9_waitOf_8 ?_
    refine v_iload_n (i := 1) hc 1 rfl dX9_waitOf_10 rfl ?_
    refine v_icmp_ge hc 70 dX9_waitOf_11 rfl ?_ ?_
    · refine v_lload_n (i := 2) hc 2 rfl dX9_waitOf_70 rfl ?_
      exact v_lret hc hq (Nat.le_of_ble_eq_true rfl) (Nat.le_of_ble_eq_true rfl) rfl dX9_waitOf_71
    · refine v_ldc2 (x := (1000 : Int64)) hc w_1535 dX9_waitOf_14 ?_
      refine v_iload (i := 6) hc 4 rfl dX9_waitOf_17 ?_
      refine v_if_le hc 26 dX9_waitOf_19 rfl ?_ ?_
      · refine v_lconst (x := (0 : Int64)) hc dX9_waitOf_26 (by decide) ?_
        refine v_sub (L' := [(0, .ref v0), (1, .int v1), (4, .long v4), (6, .int v6)]) [0, 1, 3, 4] rfl ?_
        exact vl9_waitOf_27 hc hr hq hL (fun v2 v4 v6 => f9_waitOf_8 h v0 v1 n v2 v4 v6) h v0 v1 ih v4 v6 (1000 : Int64) (0 : Int64)
      · refine v_lload_n (i := 2) hc 2 rfl dX9_waitOf_22 rfl ?_
        refine v_goto hc 27 dX9_waitOf_23 rfl ?_
        refine v_sub (L' := [(0, .ref v0), (1, .int v1), (4, .long v4), (6, .int v6)]) [0, 1, 3, 4] rfl ?_
        exact vl9_waitOf_27 hc hr hq hL (fun v2 v4 v6 => f9_waitOf_8 h v0 v1 n v2 v4 v6) h v0 v1 ih v4 v6 (1000 : Int64) v2
def f9_waitOf (h : AH) (this : Nat) (p0 : Int32) : Option (Int64) := (hObj 9 h this).bind fun _ => (some (0 : Int64)).bind fun x1 => (some (1 : Int64)).bind fun x3 => f9_waitOf_8 h this p0 FU x1 x3 (0 : Int32)
theorem ob9_waitOf {h : AH} {this : Nat} {p0 : Int32} {x : Int64} (e : f9_waitOf h this p0 = some x) : ∃ fs, hObj 9 h this = some fs := by
  unfold f9_waitOf at e
  obtain ⟨fs, h1, -⟩ := bd e
  exact ⟨fs, h1⟩
set_option maxRecDepth 100000 in
theorem ct9_waitOf (l : Launch) (D : va_G) (tys : Tys) (base : Nat) (h : AH) (this : Nat) (p0 : Int32) : Ct l D tys base yX9_waitOf cX9_waitOf 7 (some .long) 0 0 0 0 [.ref this, .int p0] h (rL h) (f9_waitOf h this p0) := by
  refine Ct.intro (own := RX9) (L := [(0, .ref this), (1, .int p0)]) rfl (by decide) rfl (Nat.le_of_ble_eq_true rfl) fun κ hc hr hq hi hL => ?_
  have hn : ∀ i, i < 7 → i < κ.2.2.2.2.1 := fun i q => hL ▸ q
  unfold f9_waitOf
  refine v_obj ?_
  refine v_lconst (x := (0 : Int64)) hc dX9_waitOf_0 (by decide) ?_
  refine v_nmL fun x1 => ?_
  refine v_lstore_n (i := 2) (L' := [(2, .long x1), (0, .ref this), (1, .int p0)]) hc dX9_waitOf_1 rfl (hn 3 (Nat.le_of_ble_eq_true rfl)) rfl ?_
  refine v_lconst (x := (1 : Int64)) hc dX9_waitOf_2 (by decide) ?_
  refine v_nmL fun x3 => ?_
  refine v_lstore (i := 4) (L' := [(4, .long x3), (2, .long x1), (0, .ref this), (1, .int p0)]) hc dX9_waitOf_3 (hn 5 (Nat.le_of_ble_eq_true rfl)) rfl ?_
  refine v_iconst (x := (0 : Int32)) hc dX9_waitOf_5 zi_0 ?_
  refine v_istore (i := 6) (L' := [(6, .int (0 : Int32)), (4, .long x3), (2, .long x1), (0, .ref this), (1, .int p0)]) hc dX9_waitOf_6 (hn 6 (Nat.le_of_ble_eq_true rfl)) rfl ?_
  refine v_sub (L' := [(0, .ref this), (1, .int p0), (2, .long x1), (4, .long x3), (6, .int (0 : Int32))]) [3, 4, 2, 1, 0] rfl ?_
  exact vl9_waitOf_8 hc hr hq hL h this p0 FU x1 x3 (0 : Int32)
theorem s9_waitOf : YV yX9_waitOf RX9 cX9_waitOf 7 (some .long) 1 := ⟨w_1635, w_1634, w_103, w_118, rfl, by decide +kernel, by decide +kernel, by decide +kernel⟩
def f9_turns_100 (v0 : Nat) : Nat → AH → Int32 → Int32 → Option (Bool × AH)
  | 0, _, _, _ => none
  | n + 1, h, v5, v6 => (if v6 ≤ v5 then some (true, h) else (fR 9 31 h v0).bind fun x108 => (aI 0 h x108 v5).bind fun x113 => (fR 9 31 h v0).bind fun x117 => (fR 9 31 h v0).bind fun x123 => (aI 0 h x123 v6).bind fun x128 => (sI 0 h x117 v5 x128).bind fun h129 => (fR 9 31 h129 v0).bind fun x131 => (sI 0 h129 x131 v6 x113).bind fun h138 => (some (v5 + (1 : Int32))).bind fun x139 => (some (v6 + (-1 : Int32))).bind fun x142 => f9_turns_100 v0 n h138 x139 x142)
set_option maxRecDepth 100000 in
theorem vl9_turns_100 {κ : Kx} (hc : CX κ RX9 cX9_turns) (hr : RX κ ({ frames := 0, cells := 0, slots := 0, locals := 0 } : Room)) (hq : QX κ (some .boolean) 0 0) (hL : 7 = κ.2.2.2.2.1)  (v0 : Nat) : ∀ n (h : AH) (v5 : Int32) (v6 : Int32), V κ (wB) 0 0 100 [(0, .ref v0), (5, .int v5), (6, .int v6)] [] h (f9_turns_100 v0 n h v5 v6) := by
  have hn : ∀ i, i < 7 → i < κ.2.2.2.2.1 := fun i q => hL ▸ q
  intro n
  induction n with
  | zero => intros; exact v_none
  | succ n ih =>
    intro h v5 v6
    rw [f9_turns_100.eq_2]
    refine v_iload (i := 5) hc 1 rfl dX9_turns_100 ?_
    refine v_iload (i := 6) hc 2 rfl dX9_turns_102 ?_
    refine v_icmp_ge hc 148 dX9_turns_104 rfl ?_ ?_
    · refine v_iconst (x := (1 : Int32)) hc dX9_turns_148 zi_1 ?_
      exact v_iret (v := bI true) hc hq rfl (nar_b true) (Nat.le_of_ble_eq_true rfl) (Nat.le_of_ble_eq_true rfl) rfl dX9_turns_149
    · refine v_aload_n (i := 0) hc 0 rfl dX9_turns_107 rfl ?_
      refine v_getV hc kX9 31 (by decide) w_1162 rfl dX9_turns_108 (gR rfl fun x108 => ?_)
      refine v_iload (i := 5) hc 1 rfl dX9_turns_111 ?_
      refine v_iald hc dX9_turns_113 fun x113 => ?_
      refine v_istore (i := 4) (L' := [(4, .int x113), (0, .ref v0), (5, .int v5), (6, .int v6)]) hc dX9_turns_114 (hn 4 (Nat.le_of_ble_eq_true rfl)) rfl ?_
      refine v_aload_n (i := 0) hc 1 rfl dX9_turns_116 rfl ?_
      refine v_getV hc kX9 31 (by decide) w_1162 rfl dX9_turns_117 (gR rfl fun x117 => ?_)
      refine v_iload (i := 5) hc 2 rfl dX9_turns_120 ?_
      refine v_aload_n (i := 0) hc 1 rfl dX9_turns_122 rfl ?_
      refine v_getV hc kX9 31 (by decide) w_1162 rfl dX9_turns_123 (gR rfl fun x123 => ?_)
      refine v_iload (i := 6) hc 3 rfl dX9_turns_126 ?_
      refine v_iald hc dX9_turns_128 fun x128 => ?_
      refine v_iast hc dX9_turns_129 fun h129 => ?_
      refine v_aload_n (i := 0) hc 1 rfl dX9_turns_130 rfl ?_
      refine v_getV hc kX9 31 (by decide) w_1162 rfl dX9_turns_131 (gR rfl fun x131 => ?_)
      refine v_iload (i := 6) hc 3 rfl dX9_turns_134 ?_
      refine v_iload (i := 4) hc 0 rfl dX9_turns_136 ?_
      refine v_iast hc dX9_turns_138 fun h138 => ?_
      refine v_iincN (i := 5) (y := (1 : Int32)) (L' := fun z => [(5, .int z), (4, .int x113), (0, .ref v0), (6, .int v6)]) hc 2 rfl dX9_turns_139 zi_1 (hn 5 (Nat.le_of_ble_eq_true rfl)) (fun _ => rfl) fun x139 => ?_
      refine v_iincN (i := 6) (y := (-1 : Int32)) (L' := fun z => [(6, .int z), (5, .int x139), (4, .int x113), (0, .ref v0)]) hc 3 rfl dX9_turns_142 zi_m1 (hn 6 (Nat.le_of_ble_eq_true rfl)) (fun _ => rfl) fun x142 => ?_
      refine v_goto hc 100 dX9_turns_145 rfl ?_
      refine v_sub (L' := [(0, .ref v0), (5, .int x139), (6, .int x142)]) [3, 1, 0] rfl ?_
      exact ih h138 x139 x142
def f9_turns_41 (h : AH) (v0 : Nat) (v1 : Int32) (v2 : Int32) : Nat → Int32 → Option (Bool × AH)
  | 0, _ => none
  | n + 1, v3 => (fR 9 31 h v0).bind fun x42 => (aI 0 h x42 v3).bind fun x46 => (fR 9 31 h v0).bind fun x48 => (aI 0 h x48 v2).bind fun x52 => (if x52 ≤ x46 then (fR 9 31 h v0).bind fun x63 => (aI 0 h x63 v2).bind fun x67 => (fR 9 31 h v0).bind fun x71 => (fR 9 31 h v0).bind fun x76 => (aI 0 h x76 v3).bind fun x80 => (sI 0 h x71 v2 x80).bind fun h81 => (fR 9 31 h81 v0).bind fun x83 => (sI 0 h81 x83 v3 x67).bind fun h89 => (some (v2 + (1 : Int32))).bind fun x93 => (some (v1 - (1 : Int32))).bind fun x98 => f9_turns_100 v0 FU h89 x93 x98 else (some (v3 + (-1 : Int32))).bind fun x56 => f9_turns_41 h v0 v1 v2 n x56)
set_option maxRecDepth 100000 in
theorem vl9_turns_41 {κ : Kx} (hc : CX κ RX9 cX9_turns) (hr : RX κ ({ frames := 0, cells := 0, slots := 0, locals := 0 } : Room)) (hq : QX κ (some .boolean) 0 0) (hL : 7 = κ.2.2.2.2.1)  (h : AH) (v0 : Nat) (v1 : Int32) (v2 : Int32) : ∀ n (v3 : Int32), V κ (wB) 0 0 41 [(0, .ref v0), (1, .int v1), (2, .int v2), (3, .int v3)] [] h (f9_turns_41 h v0 v1 v2 n v3) := by
  have hn : ∀ i, i < 7 → i < κ.2.2.2.2.1 := fun i q => hL ▸ q
  intro n
  induction n with
  | zero => intros; exact v_none
  | succ n ih =>
    intro v3
    rw [f9_turns_41.eq_2]
    refine v_aload_n (i := 0) hc 0 rfl dX9_turns_41 rfl ?_
    refine v_getV hc kX9 31 (by decide) w_1162 rfl dX9_turns_42 (gR rfl fun x42 => ?_)
    refine v_iload_n (i := 3) hc 3 rfl dX9_turns_45 rfl ?_
    refine v_iald hc dX9_turns_46 fun x46 => ?_
    refine v_aload_n (i := 0) hc 0 rfl dX9_turns_47 rfl ?_
    refine v_getV hc kX9 31 (by decide) w_1162 rfl dX9_turns_48 (gR rfl fun x48 => ?_)
    refine v_iload_n (i := 2) hc 2 rfl dX9_turns_51 rfl ?_
    refine v_iald hc dX9_turns_52 fun x52 => ?_
    refine v_icmp_ge hc 62 dX9_turns_53 rfl ?_ ?_
    · refine v_aload_n (i := 0) hc 0 rfl dX9_turns_62 rfl ?_
      refine v_getV hc kX9 31 (by decide) w_1162 rfl dX9_turns_63 (gR rfl fun x63 => ?_)
      refine v_iload_n (i := 2) hc 2 rfl dX9_turns_66 rfl ?_
      refine v_iald hc dX9_turns_67 fun x67 => ?_
      refine v_istore (i := 4) (L' := [(4, .int x67), (0, .ref v0), (1, .int v1), (2, .int v2), (3, .int v3)]) hc dX9_turns_68 (hn 4 (Nat.le_of_ble_eq_true rfl)) rfl ?_
      refine v_aload_n (i := 0) hc 1 rfl dX9_turns_70 rfl ?_
      refine v_getV hc kX9 31 (by decide) w_1162 rfl dX9_turns_71 (gR rfl fun x71 => ?_)
      refine v_iload_n (i := 2) hc 3 rfl dX9_turns_74 rfl ?_
      refine v_aload_n (i := 0) hc 1 rfl dX9_turns_75 rfl ?_
      refine v_getV hc kX9 31 (by decide) w_1162 rfl dX9_turns_76 (gR rfl fun x76 => ?_)
      refine v_iload_n (i := 3) hc 4 rfl dX9_turns_79 rfl ?_
      refine v_iald hc dX9_turns_80 fun x80 => ?_
      refine v_iast hc dX9_turns_81 fun h81 => ?_
      refine v_aload_n (i := 0) hc 1 rfl dX9_turns_82 rfl ?_
      refine v_getV hc kX9 31 (by decide) w_1162 rfl dX9_turns_83 (gR rfl fun x83 => ?_)
      refine v_iload_n (i := 3) hc 4 rfl dX9_turns_86 rfl ?_
      refine v_iload (i := 4) hc 0 rfl dX9_turns_87 ?_
      refine v_iast hc dX9_turns_89 fun h89 => ?_
      refine v_iload_n (i := 2) hc 3 rfl dX9_turns_90 rfl ?_
      refine v_iconst (x := (1 : Int32)) hc dX9_turns_91 zi_1 ?_
      refine v_iadd hc dX9_turns_92 ?_
      refine v_nmI fun x93 => ?_
      refine v_istore (i := 5) (L' := [(5, .int x93), (4, .int x67), (0, .ref v0), (1, .int v1), (2, .int v2), (3, .int v3)]) hc dX9_turns_93 (hn 5 (Nat.le_of_ble_eq_true rfl)) rfl ?_
      refine v_iload_n (i := 1) hc 3 rfl dX9_turns_95 rfl ?_
      refine v_iconst (x := (1 : Int32)) hc dX9_turns_96 zi_1 ?_
      refine v_isub hc dX9_turns_97 ?_
      refine v_nmI fun x98 => ?_
      refine v_istore (i := 6) (L' := [(6, .int x98), (5, .int x93), (4, .int x67), (0, .ref v0), (1, .int v1), (2, .int v2), (3, .int v3)]) hc dX9_turns_98 (hn 6 (Nat.le_of_ble_eq_true rfl)) rfl ?_
      refine v_sub (L' := [(0, .ref v0), (5, .int x93), (6, .int x98)]) [3, 1, 0] rfl ?_
      exact vl9_turns_100 hc hr hq hL v0 FU h89 x93 x98
    · refine v_iincN (i := 3) (y := (-1 : Int32)) (L' := fun z => [(3, .int z), (0, .ref v0), (1, .int v1), (2, .int v2)]) hc 3 rfl dX9_turns_56 zi_m1 (hn 3 (Nat.le_of_ble_eq_true rfl)) (fun _ => rfl) fun x56 => ?_
      refine v_goto hc 41 dX9_turns_59 rfl ?_
      refine v_sub (L' := [(0, .ref v0), (1, .int v1), (2, .int v2), (3, .int x56)]) [1, 2, 3, 0] rfl ?_
      exact ih x56
def f9_turns_4 (h : AH) (v0 : Nat) (v1 : Int32) : Nat → Int32 → Option (Bool × AH)
  | 0, _ => none
  | n + 1, v2 => (if v2 < 0 then (if 0 ≤ v2 then (some (v1 - (1 : Int32))).bind fun x40 => f9_turns_41 h v0 v1 v2 FU x40 else some (false, h)) else (fR 9 31 h v0).bind fun x9 => (aI 0 h x9 v2).bind fun x13 => (fR 9 31 h v0).bind fun x15 => (aI 0 h x15 (v2 + (1 : Int32))).bind fun x21 => (if x13 ≤ x21 then (if 0 ≤ v2 then (some (v1 - (1 : Int32))).bind fun x40 => f9_turns_41 h v0 v1 v2 FU x40 else some (false, h)) else (some (v2 + (-1 : Int32))).bind fun x25 => f9_turns_4 h v0 v1 n x25))
set_option maxRecDepth 100000 in
theorem vl9_turns_4 {κ : Kx} (hc : CX κ RX9 cX9_turns) (hr : RX κ ({ frames := 0, cells := 0, slots := 0, locals := 0 } : Room)) (hq : QX κ (some .boolean) 0 0) (hL : 7 = κ.2.2.2.2.1)  (h : AH) (v0 : Nat) (v1 : Int32) : ∀ n (v2 : Int32), V κ (wB) 0 0 4 [(0, .ref v0), (1, .int v1), (2, .int v2)] [] h (f9_turns_4 h v0 v1 n v2) := by
  have hn : ∀ i, i < 7 → i < κ.2.2.2.2.1 := fun i q => hL ▸ q
  intro n
  induction n with
  | zero => intros; exact v_none
  | succ n ih =>
    intro v2
    rw [f9_turns_4.eq_2]
    refine v_iload_n (i := 2) hc 2 rfl dX9_turns_4 rfl ?_
    refine v_if_lt hc 31 dX9_turns_5 rfl ?_ ?_
    · refine v_iload_n (i := 2) hc 2 rfl dX9_turns_31 rfl ?_
      refine v_if_ge hc 37 dX9_turns_32 rfl ?_ ?_
      · refine v_iload_n (i := 1) hc 1 rfl dX9_turns_37 rfl ?_
        refine v_iconst (x := (1 : Int32)) hc dX9_turns_38 zi_1 ?_
        refine v_isub hc dX9_turns_39 ?_
        refine v_nmI fun x40 => ?_
        refine v_istore_n (i := 3) (L' := [(3, .int x40), (0, .ref v0), (1, .int v1), (2, .int v2)]) hc dX9_turns_40 rfl (hn 3 (Nat.le_of_ble_eq_true rfl)) rfl ?_
        refine v_sub (L' := [(0, .ref v0), (1, .int v1), (2, .int v2), (3, .int x40)]) [1, 2, 3, 0] rfl ?_
        exact vl9_turns_41 hc hr hq hL h v0 v1 v2 FU x40
      · refine v_iconst (x := (0 : Int32)) hc dX9_turns_35 zi_0 ?_
        exact v_iret (v := bI false) hc hq rfl (nar_b false) (Nat.le_of_ble_eq_true rfl) (Nat.le_of_ble_eq_true rfl) rfl dX9_turns_36
    · refine v_aload_n (i := 0) hc 0 rfl dX9_turns_8 rfl ?_
      refine v_getV hc kX9 31 (by decide) w_1162 rfl dX9_turns_9 (gR rfl fun x9 => ?_)
      refine v_iload_n (i := 2) hc 2 rfl dX9_turns_12 rfl ?_
      refine v_iald hc dX9_turns_13 fun x13 => ?_
      refine v_aload_n (i := 0) hc 0 rfl dX9_turns_14 rfl ?_
      refine v_getV hc kX9 31 (by decide) w_1162 rfl dX9_turns_15 (gR rfl fun x15 => ?_)
      refine v_iload_n (i := 2) hc 2 rfl dX9_turns_18 rfl ?_
      refine v_iconst (x := (1 : Int32)) hc dX9_turns_19 zi_1 ?_
      refine v_iadd hc dX9_turns_20 ?_
      refine v_iald hc dX9_turns_21 fun x21 => ?_
      refine v_icmp_le hc 31 dX9_turns_22 rfl ?_ ?_
      · refine v_iload_n (i := 2) hc 2 rfl dX9_turns_31 rfl ?_
        refine v_if_ge hc 37 dX9_turns_32 rfl ?_ ?_
        · refine v_iload_n (i := 1) hc 1 rfl dX9_turns_37 rfl ?_
          refine v_iconst (x := (1 : Int32)) hc dX9_turns_38 zi_1 ?_
          refine v_isub hc dX9_turns_39 ?_
          refine v_nmI fun x40 => ?_
          refine v_istore_n (i := 3) (L' := [(3, .int x40), (0, .ref v0), (1, .int v1), (2, .int v2)]) hc dX9_turns_40 rfl (hn 3 (Nat.le_of_ble_eq_true rfl)) rfl ?_
          refine v_sub (L' := [(0, .ref v0), (1, .int v1), (2, .int v2), (3, .int x40)]) [1, 2, 3, 0] rfl ?_
          exact vl9_turns_41 hc hr hq hL h v0 v1 v2 FU x40
        · refine v_iconst (x := (0 : Int32)) hc dX9_turns_35 zi_0 ?_
          exact v_iret (v := bI false) hc hq rfl (nar_b false) (Nat.le_of_ble_eq_true rfl) (Nat.le_of_ble_eq_true rfl) rfl dX9_turns_36
      · refine v_iincN (i := 2) (y := (-1 : Int32)) (L' := fun z => [(2, .int z), (0, .ref v0), (1, .int v1)]) hc 2 rfl dX9_turns_25 zi_m1 (hn 2 (Nat.le_of_ble_eq_true rfl)) (fun _ => rfl) fun x25 => ?_
        refine v_goto hc 4 dX9_turns_28 rfl ?_
        refine v_sub (L' := [(0, .ref v0), (1, .int v1), (2, .int x25)]) [1, 2, 0] rfl ?_
        exact ih x25
def f9_turns (h : AH) (this : Nat) (p0 : Int32) : Option (Bool × AH) := (hObj 9 h this).bind fun _ => (some (p0 - (2 : Int32))).bind fun x3 => f9_turns_4 h this p0 FU x3
theorem ob9_turns {h : AH} {this : Nat} {p0 : Int32} {x : Bool × AH} (e : f9_turns h this p0 = some x) : ∃ fs, hObj 9 h this = some fs := by
  unfold f9_turns at e
  obtain ⟨fs, h1, -⟩ := bd e
  exact ⟨fs, h1⟩
set_option maxRecDepth 100000 in
theorem ct9_turns (l : Launch) (D : va_G) (tys : Tys) (base : Nat) (h : AH) (this : Nat) (p0 : Int32) : Ct l D tys base yX9_turns cX9_turns 7 (some .boolean) 0 0 0 0 [.ref this, .int p0] h (wB) (f9_turns h this p0) := by
  refine Ct.intro (own := RX9) (L := [(0, .ref this), (1, .int p0)]) rfl (by decide) rfl (Nat.le_of_ble_eq_true rfl) fun κ hc hr hq hi hL => ?_
  have hn : ∀ i, i < 7 → i < κ.2.2.2.2.1 := fun i q => hL ▸ q
  unfold f9_turns
  refine v_obj ?_
  refine v_iload_n (i := 1) hc 1 rfl dX9_turns_0 rfl ?_
  refine v_iconst (x := (2 : Int32)) hc dX9_turns_1 zi_2 ?_
  refine v_isub hc dX9_turns_2 ?_
  refine v_nmI fun x3 => ?_
  refine v_istore_n (i := 2) (L' := [(2, .int x3), (0, .ref this), (1, .int p0)]) hc dX9_turns_3 rfl (hn 2 (Nat.le_of_ble_eq_true rfl)) rfl ?_
  refine v_sub (L' := [(0, .ref this), (1, .int p0), (2, .int x3)]) [1, 2, 0] rfl ?_
  exact vl9_turns_4 hc hr hq hL h this p0 FU x3
theorem s9_turns : YV yX9_turns RX9 cX9_turns 7 (some .boolean) 1 := ⟨w_1639, w_1638, w_104, w_118, rfl, by decide +kernel, by decide +kernel, by decide +kernel⟩
def f9_soonest_156 (k121 : AH → Int64 → Bool → Option (Int64 × AH)) (v0 : Nat) (v4 : Int32) (v5 : Int32) (v6 : Int64) : Nat → AH → Int32 → Option (Int64 × AH)
  | 0, _, _ => none
  | n + 1, h, v11 => (if v5 ≤ v11 then (f9_turns h v0 v5).bind fun x186 => k121 x186.2 v6 x186.1 else (fR 9 32 h v0).bind fun x164 => (fR 9 31 h v0).bind fun x170 => (aI 0 h x170 v11).bind fun x175 => (sI 0 h x164 v11 x175).bind fun h176 => (some (v11 + (1 : Int32))).bind fun x177 => f9_soonest_156 k121 v0 v4 v5 v6 n h176 x177)
set_option maxRecDepth 100000 in
theorem vl9_soonest_156 {κ : Kx} (hc : CX κ RX9 cX9_soonest) (hr : RX κ ({ frames := 6, cells := 0, slots := 0, locals := 141 } : Room)) (hq : QX κ (some .long) 0 0) (hL : 12 = κ.2.2.2.2.1)  (k121 : AH → Int64 → Bool → Option (Int64 × AH)) (v0 : Nat) (v4 : Int32) (v5 : Int32) (v6 : Int64) (hk121 : ∀ (h : AH) (v6 : Int64) (v8 : Bool), V κ (wL) 0 0 121 [(0, .ref v0), (4, .int v4), (5, .int v5), (6, .long v6), (8, .int (bI v8))] [] h (k121 h v6 v8)) : ∀ n (h : AH) (v11 : Int32), V κ (wL) 0 0 156 [(0, .ref v0), (4, .int v4), (5, .int v5), (6, .long v6), (11, .int v11)] [] h (f9_soonest_156 k121 v0 v4 v5 v6 n h v11) := by
  have hn : ∀ i, i < 12 → i < κ.2.2.2.2.1 := fun i q => hL ▸ q
  intro n
  induction n with
  | zero => intros; exact v_none
  | succ n ih =>
    intro h v11
    rw [f9_soonest_156.eq_2]
    refine v_iload (i := 11) hc 4 rfl dX9_soonest_156 ?_
    refine v_iload (i := 5) hc 2 rfl dX9_soonest_158 ?_
    refine v_icmp_ge hc 183 dX9_soonest_160 rfl ?_ ?_
    · refine v_aload_n (i := 0) hc 0 rfl dX9_soonest_183 rfl ?_
      refine v_iload (i := 5) hc 2 rfl dX9_soonest_184 ?_
      refine v_cwB hc (m_V' (As := [.int v5]) (b := v0) (rest := []) 1 hc hr (fun l D tys base => ct9_turns l D tys base h v0 v5) (fun x hx => ob9_turns hx) rfl s9_turns w_1636 rfl ⟨Nat.le_of_ble_eq_true rfl, Nat.le_of_ble_eq_true rfl⟩ ⟨Nat.le_of_ble_eq_true rfl, Nat.le_of_ble_eq_true rfl⟩ (Nat.le_of_ble_eq_true rfl) dX9_soonest_186) fun x186 => ?_
      refine v_istore (i := 8) (L' := [(8, .int (bI x186.1)), (0, .ref v0), (4, .int v4), (5, .int v5), (6, .long v6), (11, .int v11)]) hc dX9_soonest_189 (hn 8 (Nat.le_of_ble_eq_true rfl)) rfl ?_
      refine v_goto hc 121 dX9_soonest_191 rfl ?_
      refine v_sub (L' := [(0, .ref v0), (4, .int v4), (5, .int v5), (6, .long v6), (8, .int (bI x186.1))]) [1, 2, 3, 4, 0] rfl ?_
      exact hk121 x186.2 v6 x186.1
    · refine v_aload_n (i := 0) hc 0 rfl dX9_soonest_163 rfl ?_
      refine v_getV hc kX9 32 (by decide) w_1163 rfl dX9_soonest_164 (gR rfl fun x164 => ?_)
      refine v_iload (i := 11) hc 4 rfl dX9_soonest_167 ?_
      refine v_aload_n (i := 0) hc 0 rfl dX9_soonest_169 rfl ?_
      refine v_getV hc kX9 31 (by decide) w_1162 rfl dX9_soonest_170 (gR rfl fun x170 => ?_)
      refine v_iload (i := 11) hc 4 rfl dX9_soonest_173 ?_
      refine v_iald hc dX9_soonest_175 fun x175 => ?_
      refine v_iast hc dX9_soonest_176 fun h176 => ?_
      refine v_iincN (i := 11) (y := (1 : Int32)) (L' := fun z => [(11, .int z), (0, .ref v0), (4, .int v4), (5, .int v5), (6, .long v6)]) hc 4 rfl dX9_soonest_177 zi_1 (hn 11 (Nat.le_of_ble_eq_true rfl)) (fun _ => rfl) fun x177 => ?_
      refine v_goto hc 156 dX9_soonest_180 rfl ?_
      refine v_sub (L' := [(0, .ref v0), (4, .int v4), (5, .int v5), (6, .long v6), (11, .int x177)]) [1, 2, 3, 4, 0] rfl ?_
      exact ih h176 x177
def f9_soonest_121 (v0 : Nat) (v4 : Int32) (v5 : Int32) : Nat → AH → Int64 → Bool → Option (Int64 × AH)
  | 0, _, _, _ => none
  | n + 1, h, v6, v8 => (if v8 = true then (f9_waitOf h v0 v5).bind fun x129 => (if v6 < (0 : Int64) then f9_soonest_156 (fun h v6 v8 => f9_soonest_121 v0 v4 v5 n h v6 v8) v0 v4 v5 x129 FU h (0 : Int32) else (if v6 ≤ x129 then (f9_turns h v0 v5).bind fun x186 => f9_soonest_121 v0 v4 v5 n x186.2 v6 x186.1 else f9_soonest_156 (fun h v6 v8 => f9_soonest_121 v0 v4 v5 n h v6 v8) v0 v4 v5 x129 FU h (0 : Int32))) else (if v4 = (6 : Int32) then some (v6, h) else (if v5 ≤ v4 then some ((-1 : Int64), h) else (fR 9 32 h v0).bind fun x214 => (aI 0 h x214 v4).bind fun x219 => some (x219.toInt64, h))))
set_option maxRecDepth 100000 in
theorem vl9_soonest_121 {κ : Kx} (hc : CX κ RX9 cX9_soonest) (hr : RX κ ({ frames := 6, cells := 0, slots := 0, locals := 141 } : Room)) (hq : QX κ (some .long) 0 0) (hL : 12 = κ.2.2.2.2.1)  (v0 : Nat) (v4 : Int32) (v5 : Int32) : ∀ n (h : AH) (v6 : Int64) (v8 : Bool), V κ (wL) 0 0 121 [(0, .ref v0), (4, .int v4), (5, .int v5), (6, .long v6), (8, .int (bI v8))] [] h (f9_soonest_121 v0 v4 v5 n h v6 v8) := by
  have hn : ∀ i, i < 12 → i < κ.2.2.2.2.1 := fun i q => hL ▸ q
  intro n
  induction n with
  | zero => intros; exact v_none
  | succ n ih =>
    intro h v6 v8
    rw [f9_soonest_121.eq_2]
    refine v_iload (i := 8) hc 4 rfl dX9_soonest_121 ?_
    refine v_ifb_eq hc 194 dX9_soonest_123 rfl ?_ ?_
    · refine v_iload (i := 4) hc 1 rfl dX9_soonest_194 ?_
      refine v_bipush (x := (6 : Int32)) hc dX9_soonest_196 zb_6 ?_
      refine v_icmp_ne hc 206 dX9_soonest_198 rfl ?_ ?_
      · refine v_iload (i := 4) hc 1 rfl dX9_soonest_206 ?_
        refine v_iload (i := 5) hc 2 rfl dX9_soonest_208 ?_
        refine v_icmp_ge hc 224 dX9_soonest_210 rfl ?_ ?_
        · refine v_ldc2 (x := (-1 : Int64)) hc w_1631 dX9_soonest_224 ?_
          exact v_lret hc hq (Nat.le_of_ble_eq_true rfl) (Nat.le_of_ble_eq_true rfl) rfl dX9_soonest_227
        · refine v_aload_n (i := 0) hc 0 rfl dX9_soonest_213 rfl ?_
          refine v_getV hc kX9 32 (by decide) w_1163 rfl dX9_soonest_214 (gR rfl fun x214 => ?_)
          refine v_iload (i := 4) hc 1 rfl dX9_soonest_217 ?_
          refine v_iald hc dX9_soonest_219 fun x219 => ?_
          refine v_i2l hc dX9_soonest_220 ?_
          refine v_goto hc 227 dX9_soonest_221 rfl ?_
          exact v_lret hc hq (Nat.le_of_ble_eq_true rfl) (Nat.le_of_ble_eq_true rfl) rfl dX9_soonest_227
      · refine v_lload (i := 6) hc 3 rfl dX9_soonest_201 ?_
        refine v_goto hc 227 dX9_soonest_203 rfl ?_
        exact v_lret hc hq (Nat.le_of_ble_eq_true rfl) (Nat.le_of_ble_eq_true rfl) rfl dX9_soonest_227
    · refine v_aload_n (i := 0) hc 0 rfl dX9_soonest_126 rfl ?_
      refine v_iload (i := 5) hc 2 rfl dX9_soonest_127 ?_
      refine v_cL hc (m_V' (As := [.int v5]) (b := v0) (rest := []) 1 hc hr (fun l D tys base => ct9_waitOf l D tys base h v0 v5) (fun x hx => ob9_waitOf hx) rfl s9_waitOf w_1632 rfl ⟨Nat.le_of_ble_eq_true rfl, Nat.le_of_ble_eq_true rfl⟩ ⟨Nat.le_of_ble_eq_true rfl, Nat.le_of_ble_eq_true rfl⟩ (Nat.le_of_ble_eq_true rfl) dX9_soonest_129) fun x129 => ?_
      refine v_lstore (i := 9) (L' := [(9, .long x129), (0, .ref v0), (4, .int v4), (5, .int v5), (6, .long v6), (8, .int (bI v8))]) hc dX9_soonest_132 (hn 10 (Nat.le_of_ble_eq_true rfl)) rfl ?_
      refine v_lload (i := 6) hc 4 rfl dX9_soonest_134 ?_
      refine v_lconst (x := (0 : Int64)) hc dX9_soonest_136 (by decide) ?_
      refine v_lcmp_lt hc 149 dX9_soonest_137 dX9_soonest_138 rfl ?_ ?_
      · refine v_lload (i := 9) hc 0 rfl dX9_soonest_149 ?_
        refine v_lstore (i := 6) (L' := [(6, .long x129), (9, .long x129), (0, .ref v0), (4, .int v4), (5, .int v5), (8, .int (bI v8))]) hc dX9_soonest_151 (hn 7 (Nat.le_of_ble_eq_true rfl)) rfl ?_
        refine v_iconst (x := (0 : Int32)) hc dX9_soonest_153 zi_0 ?_
        refine v_istore (i := 11) (L' := [(11, .int (0 : Int32)), (6, .long x129), (9, .long x129), (0, .ref v0), (4, .int v4), (5, .int v5), (8, .int (bI v8))]) hc dX9_soonest_154 (hn 11 (Nat.le_of_ble_eq_true rfl)) rfl ?_
        refine v_sub (L' := [(0, .ref v0), (4, .int v4), (5, .int v5), (6, .long x129), (11, .int (0 : Int32))]) [3, 4, 5, 1, 0] rfl ?_
        exact vl9_soonest_156 hc hr hq hL (fun h v6 v8 => f9_soonest_121 v0 v4 v5 n h v6 v8) v0 v4 v5 x129 ih FU h (0 : Int32)
      · refine v_lload (i := 9) hc 0 rfl dX9_soonest_141 ?_
        refine v_lload (i := 6) hc 4 rfl dX9_soonest_143 ?_
        refine v_lcmp_ge hc 183 dX9_soonest_145 dX9_soonest_146 rfl ?_ ?_
        · refine v_aload_n (i := 0) hc 1 rfl dX9_soonest_183 rfl ?_
          refine v_iload (i := 5) hc 3 rfl dX9_soonest_184 ?_
          refine v_cwB hc (m_V' (As := [.int v5]) (b := v0) (rest := []) 1 hc hr (fun l D tys base => ct9_turns l D tys base h v0 v5) (fun x hx => ob9_turns hx) rfl s9_turns w_1636 rfl ⟨Nat.le_of_ble_eq_true rfl, Nat.le_of_ble_eq_true rfl⟩ ⟨Nat.le_of_ble_eq_true rfl, Nat.le_of_ble_eq_true rfl⟩ (Nat.le_of_ble_eq_true rfl) dX9_soonest_186) fun x186 => ?_
          refine v_istore (i := 8) (L' := [(8, .int (bI x186.1)), (9, .long x129), (0, .ref v0), (4, .int v4), (5, .int v5), (6, .long v6)]) hc dX9_soonest_189 (hn 8 (Nat.le_of_ble_eq_true rfl)) rfl ?_
          refine v_goto hc 121 dX9_soonest_191 rfl ?_
          refine v_sub (L' := [(0, .ref v0), (4, .int v4), (5, .int v5), (6, .long v6), (8, .int (bI x186.1))]) [2, 3, 4, 5, 0] rfl ?_
          exact ih x186.2 v6 x186.1
        · refine v_lload (i := 9) hc 0 rfl dX9_soonest_149 ?_
          refine v_lstore (i := 6) (L' := [(6, .long x129), (9, .long x129), (0, .ref v0), (4, .int v4), (5, .int v5), (8, .int (bI v8))]) hc dX9_soonest_151 (hn 7 (Nat.le_of_ble_eq_true rfl)) rfl ?_
          refine v_iconst (x := (0 : Int32)) hc dX9_soonest_153 zi_0 ?_
          refine v_istore (i := 11) (L' := [(11, .int (0 : Int32)), (6, .long x129), (9, .long x129), (0, .ref v0), (4, .int v4), (5, .int v5), (8, .int (bI v8))]) hc dX9_soonest_154 (hn 11 (Nat.le_of_ble_eq_true rfl)) rfl ?_
          refine v_sub (L' := [(0, .ref v0), (4, .int v4), (5, .int v5), (6, .long x129), (11, .int (0 : Int32))]) [3, 4, 5, 1, 0] rfl ?_
          exact vl9_soonest_156 hc hr hq hL (fun h v6 v8 => f9_soonest_121 v0 v4 v5 n h v6 v8) v0 v4 v5 x129 ih FU h (0 : Int32)
def f9_soonest_59 (v0 : Nat) (v1 : Int32) (v2 : Int32) (v3 : Int32) (v4 : Int32) : Nat → AH → Int32 → Int32 → Option (Int64 × AH)
  | 0, _, _, _ => none
  | n + 1, h, v5, v6 => (fI 9 14 h v0).bind fun x62 => (if x62 ≤ v6 then (some (-1 : Int64)).bind fun x116 => f9_soonest_121 v0 v4 v5 FU h x116 true else (if ((v1 >>> (v6 &&& 31)) &&& (1 : Int32)) = 0 then (some (v6 + (1 : Int32))).bind fun x107 => f9_soonest_59 v0 v1 v2 v3 v4 n h v5 x107 else (fR 9 31 h v0).bind fun x81 => (sI 0 h x81 v5 v6).bind fun h88 => (fR 9 33 h88 v0).bind fun x90 => (f9_chanceOf h88 v0 v6 v2 v3).bind fun x100 => (sI 0 x100.2 x90 v6 x100.1).bind fun h103 => (some (v5 + (1 : Int32))).bind fun x104 => (some (v6 + (1 : Int32))).bind fun x107 => f9_soonest_59 v0 v1 v2 v3 v4 n h103 x104 x107))
set_option maxRecDepth 100000 in
theorem vl9_soonest_59 {κ : Kx} (hc : CX κ RX9 cX9_soonest) (hr : RX κ ({ frames := 6, cells := 0, slots := 0, locals := 141 } : Room)) (hq : QX κ (some .long) 0 0) (hL : 12 = κ.2.2.2.2.1)  (v0 : Nat) (v1 : Int32) (v2 : Int32) (v3 : Int32) (v4 : Int32) : ∀ n (h : AH) (v5 : Int32) (v6 : Int32), V κ (wL) 0 0 59 [(0, .ref v0), (1, .int v1), (2, .int v2), (3, .int v3), (4, .int v4), (5, .int v5), (6, .int v6)] [] h (f9_soonest_59 v0 v1 v2 v3 v4 n h v5 v6) := by
  have hn : ∀ i, i < 12 → i < κ.2.2.2.2.1 := fun i q => hL ▸ q
  intro n
  induction n with
  | zero => intros; exact v_none
  | succ n ih =>
    intro h v5 v6
    rw [f9_soonest_59.eq_2]
    refine v_iload (i := 6) hc 6 rfl dX9_soonest_59 ?_
    refine v_aload_n (i := 0) hc 0 rfl dX9_soonest_61 rfl ?_
    refine v_getV hc kX9 14 (by decide) w_1145 rfl dX9_soonest_62 (gI rfl fun x62 => ?_)
    refine v_icmp_ge hc 113 dX9_soonest_65 rfl ?_ ?_
    · refine v_ldc2 (x := (-1 : Int64)) hc w_1631 dX9_soonest_113 ?_
      refine v_nmL fun x116 => ?_
      refine v_lstore (i := 6) (L' := [(6, .long x116), (0, .ref v0), (1, .int v1), (2, .int v2), (3, .int v3), (4, .int v4), (5, .int v5)]) hc dX9_soonest_116 (hn 7 (Nat.le_of_ble_eq_true rfl)) rfl ?_
      refine v_iconst (x := (1 : Int32)) hc dX9_soonest_118 zi_1 ?_
      refine v_istore (i := 8) (L' := [(8, .int (1 : Int32)), (6, .long x116), (0, .ref v0), (1, .int v1), (2, .int v2), (3, .int v3), (4, .int v4), (5, .int v5)]) hc dX9_soonest_119 (hn 8 (Nat.le_of_ble_eq_true rfl)) rfl ?_
      refine v_sub (L' := [(0, .ref v0), (4, .int v4), (5, .int v5), (6, .long x116), (8, .int (bI true))]) [2, 6, 7, 1, 0] rfl ?_
      exact vl9_soonest_121 hc hr hq hL v0 v4 v5 FU h x116 true
    · refine v_iload_n (i := 1) hc 1 rfl dX9_soonest_68 rfl ?_
      refine v_iload (i := 6) hc 6 rfl dX9_soonest_69 ?_
      refine v_ishr hc dX9_soonest_71 ?_
      refine v_iconst (x := (1 : Int32)) hc dX9_soonest_72 zi_1 ?_
      refine v_iand hc dX9_soonest_73 ?_
      refine v_if_ne hc 80 dX9_soonest_74 rfl ?_ ?_
      · refine v_aload_n (i := 0) hc 0 rfl dX9_soonest_80 rfl ?_
        refine v_getV hc kX9 31 (by decide) w_1162 rfl dX9_soonest_81 (gR rfl fun x81 => ?_)
        refine v_iload (i := 5) hc 5 rfl dX9_soonest_84 ?_
        refine v_iload (i := 6) hc 6 rfl dX9_soonest_86 ?_
        refine v_iast hc dX9_soonest_88 fun h88 => ?_
        refine v_aload_n (i := 0) hc 0 rfl dX9_soonest_89 rfl ?_
        refine v_getV hc kX9 33 (by decide) w_1164 rfl dX9_soonest_90 (gR rfl fun x90 => ?_)
        refine v_iload (i := 6) hc 6 rfl dX9_soonest_93 ?_
        refine v_aload_n (i := 0) hc 0 rfl dX9_soonest_95 rfl ?_
        refine v_iload (i := 6) hc 6 rfl dX9_soonest_96 ?_
        refine v_iload_n (i := 2) hc 2 rfl dX9_soonest_98 rfl ?_
        refine v_iload_n (i := 3) hc 3 rfl dX9_soonest_99 rfl ?_
        refine v_cwI hc (m_V' (As := [.int v6, .int v2, .int v3]) (b := v0) (rest := [.int v6, .ref x90]) 3 hc hr (fun l D tys base => ct9_chanceOf l D tys base h88 v0 v6 v2 v3) (fun x hx => ob9_chanceOf hx) rfl s9_chanceOf w_1508 rfl ⟨Nat.le_of_ble_eq_true rfl, Nat.le_of_ble_eq_true rfl⟩ ⟨Nat.le_of_ble_eq_true rfl, Nat.le_of_ble_eq_true rfl⟩ (Nat.le_of_ble_eq_true rfl) dX9_soonest_100) fun x100 => ?_
        refine v_iast hc dX9_soonest_103 fun h103 => ?_
        refine v_iincN (i := 5) (y := (1 : Int32)) (L' := fun z => [(5, .int z), (0, .ref v0), (1, .int v1), (2, .int v2), (3, .int v3), (4, .int v4), (6, .int v6)]) hc 5 rfl dX9_soonest_104 zi_1 (hn 5 (Nat.le_of_ble_eq_true rfl)) (fun _ => rfl) fun x104 => ?_
        refine v_iincN (i := 6) (y := (1 : Int32)) (L' := fun z => [(6, .int z), (5, .int x104), (0, .ref v0), (1, .int v1), (2, .int v2), (3, .int v3), (4, .int v4)]) hc 6 rfl dX9_soonest_107 zi_1 (hn 6 (Nat.le_of_ble_eq_true rfl)) (fun _ => rfl) fun x107 => ?_
        refine v_goto hc 59 dX9_soonest_110 rfl ?_
        refine v_sub (L' := [(0, .ref v0), (1, .int v1), (2, .int v2), (3, .int v3), (4, .int v4), (5, .int x104), (6, .int x107)]) [2, 3, 4, 5, 6, 1, 0] rfl ?_
        exact ih h103 x104 x107
      · refine v_goto hc 107 dX9_soonest_77 rfl ?_
        refine v_iincN (i := 6) (y := (1 : Int32)) (L' := fun z => [(6, .int z), (0, .ref v0), (1, .int v1), (2, .int v2), (3, .int v3), (4, .int v4), (5, .int v5)]) hc 6 rfl dX9_soonest_107 zi_1 (hn 6 (Nat.le_of_ble_eq_true rfl)) (fun _ => rfl) fun x107 => ?_
        refine v_goto hc 59 dX9_soonest_110 rfl ?_
        refine v_sub (L' := [(0, .ref v0), (1, .int v1), (2, .int v2), (3, .int v3), (4, .int v4), (5, .int v5), (6, .int x107)]) [1, 2, 3, 4, 5, 6, 0] rfl ?_
        exact ih h v5 x107
def f9_soonest (h : AH) (this : Nat) (p0 : Int32) (p1 : Int32) (p2 : Int32) (p3 : Int32) : Option (Int64 × AH) := (hObj 9 h this).bind fun _ => (fI 9 14 h this).bind fun x5 => (f9_in h p0.toInt64 (1 : Int64) ((((1 : Int32) <<< (x5 &&& 31)) - (1 : Int32)).toInt64)).bind fun x12 => (if x12 = true then (f9_bits h p0).bind fun x19 => (if (6 : Int32) < x19 then some ((-1 : Int64), h) else (f9_areTwo h this p1 p2).bind fun x30 => (if x30 = true then (f9_in h p3.toInt64 (0 : Int64) (6 : Int64)).bind fun x43 => (if x43 = true then f9_soonest_59 this p0 p1 p2 p3 FU h (0 : Int32) (0 : Int32) else some ((-1 : Int64), h)) else some ((-1 : Int64), h))) else some ((-1 : Int64), h))
theorem ob9_soonest {h : AH} {this : Nat} {p0 : Int32} {p1 : Int32} {p2 : Int32} {p3 : Int32} {x : Int64 × AH} (e : f9_soonest h this p0 p1 p2 p3 = some x) : ∃ fs, hObj 9 h this = some fs := by
  unfold f9_soonest at e
  obtain ⟨fs, h1, -⟩ := bd e
  exact ⟨fs, h1⟩
set_option maxRecDepth 100000 in
theorem ct9_soonest (l : Launch) (D : va_G) (tys : Tys) (base : Nat) (h : AH) (this : Nat) (p0 : Int32) (p1 : Int32) (p2 : Int32) (p3 : Int32) : Ct l D tys base yX9_soonest cX9_soonest 12 (some .long) 6 141 0 0 [.ref this, .int p0, .int p1, .int p2, .int p3] h (wL) (f9_soonest h this p0 p1 p2 p3) := by
  refine Ct.intro (own := RX9) (L := [(0, .ref this), (1, .int p0), (2, .int p1), (3, .int p2), (4, .int p3)]) rfl (by decide) rfl (Nat.le_of_ble_eq_true rfl) fun κ hc hr hq hi hL => ?_
  have hn : ∀ i, i < 12 → i < κ.2.2.2.2.1 := fun i q => hL ▸ q
  unfold f9_soonest
  refine v_obj ?_
  refine v_iload_n (i := 1) hc 1 rfl dX9_soonest_0 rfl ?_
  refine v_i2l hc dX9_soonest_1 ?_
  refine v_lconst (x := (1 : Int64)) hc dX9_soonest_2 (by decide) ?_
  refine v_iconst (x := (1 : Int32)) hc dX9_soonest_3 zi_1 ?_
  refine v_aload_n (i := 0) hc 0 rfl dX9_soonest_4 rfl ?_
  refine v_getV hc kX9 14 (by decide) w_1145 rfl dX9_soonest_5 (gI rfl fun x5 => ?_)
  refine v_ishl hc dX9_soonest_8 ?_
  refine v_iconst (x := (1 : Int32)) hc dX9_soonest_9 zi_1 ?_
  refine v_isub hc dX9_soonest_10 ?_
  refine v_i2l hc dX9_soonest_11 ?_
  refine v_cB hc (m_S' (As := [.long p0.toInt64, .long (1 : Int64), .long ((((1 : Int32) <<< (x5 &&& 31)) - (1 : Int32)).toInt64)]) (rest := []) 3 hc hr (fun l D tys base => ct9_in l D tys base h p0.toInt64 (1 : Int64) ((((1 : Int32) <<< (x5 &&& 31)) - (1 : Int32)).toInt64)) s9_in w_1246 rfl ⟨Nat.le_of_ble_eq_true rfl, Nat.le_of_ble_eq_true rfl⟩ ⟨Nat.le_of_ble_eq_true rfl, Nat.le_of_ble_eq_true rfl⟩ (Nat.le_of_ble_eq_true rfl) dX9_soonest_12) fun x12 => ?_
  refine v_ifb_eq hc 49 dX9_soonest_15 rfl ?_ ?_
  · refine v_ldc2 (x := (-1 : Int64)) hc w_1631 dX9_soonest_49 ?_
    exact v_lret hc hq (Nat.le_of_ble_eq_true rfl) (Nat.le_of_ble_eq_true rfl) rfl dX9_soonest_52
  · refine v_iload_n (i := 1) hc 1 rfl dX9_soonest_18 rfl ?_
    refine v_cI hc (m_S' (As := [.int p0]) (rest := []) 1 hc hr (fun l D tys base => ct9_bits l D tys base h p0) s9_bits w_1627 rfl ⟨Nat.le_of_ble_eq_true rfl, Nat.le_of_ble_eq_true rfl⟩ ⟨Nat.le_of_ble_eq_true rfl, Nat.le_of_ble_eq_true rfl⟩ (Nat.le_of_ble_eq_true rfl) dX9_soonest_19) fun x19 => ?_
    refine v_bipush (x := (6 : Int32)) hc dX9_soonest_22 zb_6 ?_
    refine v_icmp_gt hc 49 dX9_soonest_24 rfl ?_ ?_
    · refine v_ldc2 (x := (-1 : Int64)) hc w_1631 dX9_soonest_49 ?_
      exact v_lret hc hq (Nat.le_of_ble_eq_true rfl) (Nat.le_of_ble_eq_true rfl) rfl dX9_soonest_52
    · refine v_aload_n (i := 0) hc 0 rfl dX9_soonest_27 rfl ?_
      refine v_iload_n (i := 2) hc 2 rfl dX9_soonest_28 rfl ?_
      refine v_iload_n (i := 3) hc 3 rfl dX9_soonest_29 rfl ?_
      refine v_cB hc (m_V' (As := [.int p1, .int p2]) (b := this) (rest := []) 2 hc hr (fun l D tys base => ct9_areTwo l D tys base h this p1 p2) (fun x hx => ob9_areTwo hx) rfl s9_areTwo w_1504 rfl ⟨Nat.le_of_ble_eq_true rfl, Nat.le_of_ble_eq_true rfl⟩ ⟨Nat.le_of_ble_eq_true rfl, Nat.le_of_ble_eq_true rfl⟩ (Nat.le_of_ble_eq_true rfl) dX9_soonest_30) fun x30 => ?_
      refine v_ifb_eq hc 49 dX9_soonest_33 rfl ?_ ?_
      · refine v_ldc2 (x := (-1 : Int64)) hc w_1631 dX9_soonest_49 ?_
        exact v_lret hc hq (Nat.le_of_ble_eq_true rfl) (Nat.le_of_ble_eq_true rfl) rfl dX9_soonest_52
      · refine v_iload (i := 4) hc 4 rfl dX9_soonest_36 ?_
        refine v_i2l hc dX9_soonest_38 ?_
        refine v_lconst (x := (0 : Int64)) hc dX9_soonest_39 (by decide) ?_
        refine v_ldc2 (x := (6 : Int64)) hc w_1630 dX9_soonest_40 ?_
        refine v_cB hc (m_S' (As := [.long p3.toInt64, .long (0 : Int64), .long (6 : Int64)]) (rest := []) 3 hc hr (fun l D tys base => ct9_in l D tys base h p3.toInt64 (0 : Int64) (6 : Int64)) s9_in w_1246 rfl ⟨Nat.le_of_ble_eq_true rfl, Nat.le_of_ble_eq_true rfl⟩ ⟨Nat.le_of_ble_eq_true rfl, Nat.le_of_ble_eq_true rfl⟩ (Nat.le_of_ble_eq_true rfl) dX9_soonest_43) fun x43 => ?_
        refine v_ifb_ne hc 53 dX9_soonest_46 rfl ?_ ?_
        · refine v_iconst (x := (0 : Int32)) hc dX9_soonest_53 zi_0 ?_
          refine v_istore (i := 5) (L' := [(5, .int (0 : Int32)), (0, .ref this), (1, .int p0), (2, .int p1), (3, .int p2), (4, .int p3)]) hc dX9_soonest_54 (hn 5 (Nat.le_of_ble_eq_true rfl)) rfl ?_
          refine v_iconst (x := (0 : Int32)) hc dX9_soonest_56 zi_0 ?_
          refine v_istore (i := 6) (L' := [(6, .int (0 : Int32)), (5, .int (0 : Int32)), (0, .ref this), (1, .int p0), (2, .int p1), (3, .int p2), (4, .int p3)]) hc dX9_soonest_57 (hn 6 (Nat.le_of_ble_eq_true rfl)) rfl ?_
          refine v_sub (L' := [(0, .ref this), (1, .int p0), (2, .int p1), (3, .int p2), (4, .int p3), (5, .int (0 : Int32)), (6, .int (0 : Int32))]) [2, 3, 4, 5, 6, 1, 0] rfl ?_
          exact vl9_soonest_59 hc hr hq hL this p0 p1 p2 p3 FU h (0 : Int32) (0 : Int32)
        · refine v_ldc2 (x := (-1 : Int64)) hc w_1631 dX9_soonest_49 ?_
          exact v_lret hc hq (Nat.le_of_ble_eq_true rfl) (Nat.le_of_ble_eq_true rfl) rfl dX9_soonest_52
theorem s9_soonest : YV yX9_soonest RX9 cX9_soonest 12 (some .long) 4 := ⟨w_1626, w_1624, w_1625, w_118, rfl, by decide +kernel, by decide +kernel, by decide +kernel⟩
def f9_surest_152 (k88 : Int32 → Int64 → Int32 → Int32 → Option (Int32 × AH)) (k106 : Int64 → Int32 → Int32 → Option (Int32 × AH)) (h : AH) (v0 : Nat) (v1 : Int32) (v4 : Int32) (v5 : Int32) (v6 : Int64) (v8 : Int32) (v9 : Int32) (v12 : Int32) (v13 : Int32) (v14 : Bool) (s0 : Int64) (s1 : Int64) : Option (Int32 × AH) := (some (s0 * s1)).bind fun x153 => (if v14 = true then (fR 9 8 h v0).bind fun x163 => (aI 0 h x163 v13).bind fun x168 => (some (v12 + x168)).bind fun x174 => (some (v13 + (1 : Int32))).bind fun x176 => k106 x153 x174 x176 else (some (v12 + (0 : Int32))).bind fun x174 => (some (v13 + (1 : Int32))).bind fun x176 => k106 x153 x174 x176)
set_option maxRecDepth 100000 in
theorem vl9_surest_152 {κ : Kx} (hc : CX κ RX9 cX9_surest) (hr : RX κ ({ frames := 6, cells := 0, slots := 0, locals := 141 } : Room)) (hq : QX κ (some .int) 0 0) (hL : 15 = κ.2.2.2.2.1) (k88 : Int32 → Int64 → Int32 → Int32 → Option (Int32 × AH)) (k106 : Int64 → Int32 → Int32 → Option (Int32 × AH)) (h : AH) (v0 : Nat) (v1 : Int32) (v4 : Int32) (v5 : Int32) (v6 : Int64) (v8 : Int32) (v9 : Int32) (hk88 : ∀ (v5 : Int32) (v6 : Int64) (v8 : Int32) (v9 : Int32), V κ (wI) 0 0 88 [(0, .ref v0), (1, .int v1), (4, .int v4), (5, .int v5), (6, .long v6), (8, .int v8), (9, .int v9)] [] h (k88 v5 v6 v8 v9)) (hk106 : ∀ (v10 : Int64) (v12 : Int32) (v13 : Int32), V κ (wI) 0 0 106 [(0, .ref v0), (1, .int v1), (4, .int v4), (5, .int v5), (6, .long v6), (8, .int v8), (9, .int v9), (10, .long v10), (12, .int v12), (13, .int v13)] [] h (k106 v10 v12 v13)) (v12 : Int32) (v13 : Int32) (v14 : Bool) (s0 : Int64) (s1 : Int64) : V κ (wI) 0 0 152 [(0, .ref v0), (1, .int v1), (4, .int v4), (5, .int v5), (6, .long v6), (8, .int v8), (9, .int v9), (12, .int v12), (13, .int v13), (14, .int (bI v14))] [.long s1, .long s0] h (f9_surest_152 k88 k106 h v0 v1 v4 v5 v6 v8 v9 v12 v13 v14 s0 s1) := by
  have hn : ∀ i, i < 15 → i < κ.2.2.2.2.1 := fun i q => hL ▸ q
  unfold f9_surest_152
  refine v_lmul hc dX9_surest_152 ?_
  refine v_nmL fun x153 => ?_
  refine v_lstore (i := 10) (L' := [(10, .long x153), (0, .ref v0), (1, .int v1), (4, .int v4), (5, .int v5), (6, .long v6), (8, .int v8), (9, .int v9), (12, .int v12), (13, .int v13), (14, .int (bI v14))]) hc dX9_surest_153 (hn 11 (Nat.le_of_ble_eq_true rfl)) rfl ?_
  refine v_iload (i := 12) hc 8 rfl dX9_surest_155 ?_
  refine v_iload (i := 14) hc 10 rfl dX9_surest_157 ?_
  refine v_ifb_eq hc 172 dX9_surest_159 rfl ?_ ?_
  · refine v_iconst (x := (0 : Int32)) hc dX9_surest_172 zi_0 ?_
    refine v_iadd hc dX9_surest_173 ?_
    refine v_nmI fun x174 => ?_
    refine v_istore (i := 12) (L' := [(12, .int x174), (10, .long x153), (0, .ref v0), (1, .int v1), (4, .int v4), (5, .int v5), (6, .long v6), (8, .int v8), (9, .int v9), (13, .int v13), (14, .int (bI v14))]) hc dX9_surest_174 (hn 12 (Nat.le_of_ble_eq_true rfl)) rfl ?_
    refine v_iincN (i := 13) (y := (1 : Int32)) (L' := fun z => [(13, .int z), (12, .int x174), (10, .long x153), (0, .ref v0), (1, .int v1), (4, .int v4), (5, .int v5), (6, .long v6), (8, .int v8), (9, .int v9), (14, .int (bI v14))]) hc 9 rfl dX9_surest_176 zi_1 (hn 13 (Nat.le_of_ble_eq_true rfl)) (fun _ => rfl) fun x176 => ?_
    refine v_goto hc 106 dX9_surest_179 rfl ?_
    refine v_sub (L' := [(0, .ref v0), (1, .int v1), (4, .int v4), (5, .int v5), (6, .long v6), (8, .int v8), (9, .int v9), (10, .long x153), (12, .int x174), (13, .int x176)]) [3, 4, 5, 6, 7, 8, 9, 2, 1, 0] rfl ?_
    exact hk106 x153 x174 x176
  · refine v_aload_n (i := 0) hc 1 rfl dX9_surest_162 rfl ?_
    refine v_getV hc kX9 8 (by decide) w_1139 rfl dX9_surest_163 (gR rfl fun x163 => ?_)
    refine v_iload (i := 13) hc 9 rfl dX9_surest_166 ?_
    refine v_iald hc dX9_surest_168 fun x168 => ?_
    refine v_goto hc 173 dX9_surest_169 rfl ?_
    refine v_iadd hc dX9_surest_173 ?_
    refine v_nmI fun x174 => ?_
    refine v_istore (i := 12) (L' := [(12, .int x174), (10, .long x153), (0, .ref v0), (1, .int v1), (4, .int v4), (5, .int v5), (6, .long v6), (8, .int v8), (9, .int v9), (13, .int v13), (14, .int (bI v14))]) hc dX9_surest_174 (hn 12 (Nat.le_of_ble_eq_true rfl)) rfl ?_
    refine v_iincN (i := 13) (y := (1 : Int32)) (L' := fun z => [(13, .int z), (12, .int x174), (10, .long x153), (0, .ref v0), (1, .int v1), (4, .int v4), (5, .int v5), (6, .long v6), (8, .int v8), (9, .int v9), (14, .int (bI v14))]) hc 9 rfl dX9_surest_176 zi_1 (hn 13 (Nat.le_of_ble_eq_true rfl)) (fun _ => rfl) fun x176 => ?_
    refine v_goto hc 106 dX9_surest_179 rfl ?_
    refine v_sub (L' := [(0, .ref v0), (1, .int v1), (4, .int v4), (5, .int v5), (6, .long v6), (8, .int v8), (9, .int v9), (10, .long x153), (12, .int x174), (13, .int x176)]) [3, 4, 5, 6, 7, 8, 9, 2, 1, 0] rfl ?_
    exact hk106 x153 x174 x176
def f9_surest_106 (k88 : Int32 → Int64 → Int32 → Int32 → Option (Int32 × AH)) (h : AH) (v0 : Nat) (v1 : Int32) (v4 : Int32) (v5 : Int32) (v6 : Int64) (v8 : Int32) (v9 : Int32) : Nat → Int64 → Int32 → Int32 → Option (Int32 × AH)
  | 0, _, _, _ => none
  | n + 1, v10, v12, v13 => (if (6 : Int32) ≤ v13 then (if v1 < v12 then (some (v9 + (1 : Int32))).bind fun x233 => k88 v5 v6 v8 x233 else (if v6 < (0 : Int64) then (some (v9 + (1 : Int32))).bind fun x233 => k88 v9 v10 v12 x233 else (if v6 < v10 then (some (v9 + (1 : Int32))).bind fun x233 => k88 v5 v6 v8 x233 else (if v10 = v6 then (if v12 < v8 then (some (v9 + (1 : Int32))).bind fun x233 => k88 v9 v10 v12 x233 else (some (v9 + (1 : Int32))).bind fun x233 => k88 v5 v6 v8 x233) else (some (v9 + (1 : Int32))).bind fun x233 => k88 v9 v10 v12 x233)))) else (if ((v9 >>> (v13 &&& 31)) &&& (1 : Int32)) = (1 : Int32) then (if (1 : Int32) = 0 then f9_surest_152 k88 (fun v10 v12 v13 => f9_surest_106 k88 h v0 v1 v4 v5 v6 v8 v9 n v10 v12 v13) h v0 v1 v4 v5 v6 v8 v9 v12 v13 true v10 (1000 : Int64) else (fR 9 33 h v0).bind fun x139 => (aI 0 h x139 v13).bind fun x144 => f9_surest_152 k88 (fun v10 v12 v13 => f9_surest_106 k88 h v0 v1 v4 v5 v6 v8 v9 n v10 v12 v13) h v0 v1 v4 v5 v6 v8 v9 v12 v13 true v10 x144.toInt64) else (if (0 : Int32) = 0 then f9_surest_152 k88 (fun v10 v12 v13 => f9_surest_106 k88 h v0 v1 v4 v5 v6 v8 v9 n v10 v12 v13) h v0 v1 v4 v5 v6 v8 v9 v12 v13 false v10 (1000 : Int64) else (fR 9 33 h v0).bind fun x139 => (aI 0 h x139 v13).bind fun x144 => f9_surest_152 k88 (fun v10 v12 v13 => f9_surest_106 k88 h v0 v1 v4 v5 v6 v8 v9 n v10 v12 v13) h v0 v1 v4 v5 v6 v8 v9 v12 v13 false v10 x144.toInt64)))
set_option maxRecDepth 100000 in
theorem vl9_surest_106 {κ : Kx} (hc : CX κ RX9 cX9_surest) (hr : RX κ ({ frames := 6, cells := 0, slots := 0, locals := 141 } : Room)) (hq : QX κ (some .int) 0 0) (hL : 15 = κ.2.2.2.2.1)  (k88 : Int32 → Int64 → Int32 → Int32 → Option (Int32 × AH)) (h : AH) (v0 : Nat) (v1 : Int32) (v4 : Int32) (v5 : Int32) (v6 : Int64) (v8 : Int32) (v9 : Int32) (hk88 : ∀ (v5 : Int32) (v6 : Int64) (v8 : Int32) (v9 : Int32), V κ (wI) 0 0 88 [(0, .ref v0), (1, .int v1), (4, .int v4), (5, .int v5), (6, .long v6), (8, .int v8), (9, .int v9)] [] h (k88 v5 v6 v8 v9)) : ∀ n (v10 : Int64) (v12 : Int32) (v13 : Int32), V κ (wI) 0 0 106 [(0, .ref v0), (1, .int v1), (4, .int v4), (5, .int v5), (6, .long v6), (8, .int v8), (9, .int v9), (10, .long v10), (12, .int v12), (13, .int v13)] [] h (f9_surest_106 k88 h v0 v1 v4 v5 v6 v8 v9 n v10 v12 v13) := by
  have hn : ∀ i, i < 15 → i < κ.2.2.2.2.1 := fun i q => hL ▸ q
  intro n
  induction n with
  | zero => intros; exact v_none
  | succ n ih =>
    intro v10 v12 v13
    rw [f9_surest_106.eq_2]
    refine v_iload (i := 13) hc 9 rfl dX9_surest_106 ?_
    refine v_bipush (x := (6 : Int32)) hc dX9_surest_108 zb_6 ?_
    refine v_icmp_ge hc 182 dX9_surest_110 rfl ?_ ?_
    · refine v_iload (i := 12) hc 8 rfl dX9_surest_182 ?_
      refine v_iload_n (i := 1) hc 1 rfl dX9_surest_184 rfl ?_
      refine v_icmp_gt hc 233 dX9_surest_185 rfl ?_ ?_
      · refine v_iincN (i := 9) (y := (1 : Int32)) (L' := fun z => [(9, .int z), (0, .ref v0), (1, .int v1), (4, .int v4), (5, .int v5), (6, .long v6), (8, .int v8), (10, .long v10), (12, .int v12), (13, .int v13)]) hc 6 rfl dX9_surest_233 zi_1 (hn 9 (Nat.le_of_ble_eq_true rfl)) (fun _ => rfl) fun x233 => ?_
        refine v_goto hc 88 dX9_surest_236 rfl ?_
        refine v_sub (L' := [(0, .ref v0), (1, .int v1), (4, .int v4), (5, .int v5), (6, .long v6), (8, .int v8), (9, .int x233)]) [1, 2, 3, 4, 5, 6, 0] rfl ?_
        exact hk88 v5 v6 v8 x233
      · refine v_lload (i := 6) hc 4 rfl dX9_surest_188 ?_
        refine v_lconst (x := (0 : Int64)) hc dX9_surest_190 (by decide) ?_
        refine v_lcmp_lt hc 221 dX9_surest_191 dX9_surest_192 rfl ?_ ?_
        · refine v_iload (i := 9) hc 6 rfl dX9_surest_221 ?_
          refine v_istore (i := 5) (L' := [(5, .int v9), (0, .ref v0), (1, .int v1), (4, .int v4), (6, .long v6), (8, .int v8), (9, .int v9), (10, .long v10), (12, .int v12), (13, .int v13)]) hc dX9_surest_223 (hn 5 (Nat.le_of_ble_eq_true rfl)) rfl ?_
          refine v_lload (i := 10) hc 7 rfl dX9_surest_225 ?_
          refine v_lstore (i := 6) (L' := [(6, .long v10), (5, .int v9), (0, .ref v0), (1, .int v1), (4, .int v4), (8, .int v8), (9, .int v9), (10, .long v10), (12, .int v12), (13, .int v13)]) hc dX9_surest_227 (hn 7 (Nat.le_of_ble_eq_true rfl)) rfl ?_
          refine v_iload (i := 12) hc 8 rfl dX9_surest_229 ?_
          refine v_istore (i := 8) (L' := [(8, .int v12), (6, .long v10), (5, .int v9), (0, .ref v0), (1, .int v1), (4, .int v4), (9, .int v9), (10, .long v10), (12, .int v12), (13, .int v13)]) hc dX9_surest_231 (hn 8 (Nat.le_of_ble_eq_true rfl)) rfl ?_
          refine v_iincN (i := 9) (y := (1 : Int32)) (L' := fun z => [(9, .int z), (8, .int v12), (6, .long v10), (5, .int v9), (0, .ref v0), (1, .int v1), (4, .int v4), (10, .long v10), (12, .int v12), (13, .int v13)]) hc 6 rfl dX9_surest_233 zi_1 (hn 9 (Nat.le_of_ble_eq_true rfl)) (fun _ => rfl) fun x233 => ?_
          refine v_goto hc 88 dX9_surest_236 rfl ?_
          refine v_sub (L' := [(0, .ref v0), (1, .int v1), (4, .int v4), (5, .int v9), (6, .long v10), (8, .int v12), (9, .int x233)]) [4, 5, 6, 3, 2, 1, 0] rfl ?_
          exact hk88 v9 v10 v12 x233
        · refine v_lload (i := 10) hc 7 rfl dX9_surest_195 ?_
          refine v_lload (i := 6) hc 4 rfl dX9_surest_197 ?_
          refine v_lcmp_gt hc 233 dX9_surest_199 dX9_surest_200 rfl ?_ ?_
          · refine v_iincN (i := 9) (y := (1 : Int32)) (L' := fun z => [(9, .int z), (0, .ref v0), (1, .int v1), (4, .int v4), (5, .int v5), (6, .long v6), (8, .int v8), (10, .long v10), (12, .int v12), (13, .int v13)]) hc 6 rfl dX9_surest_233 zi_1 (hn 9 (Nat.le_of_ble_eq_true rfl)) (fun _ => rfl) fun x233 => ?_
            refine v_goto hc 88 dX9_surest_236 rfl ?_
            refine v_sub (L' := [(0, .ref v0), (1, .int v1), (4, .int v4), (5, .int v5), (6, .long v6), (8, .int v8), (9, .int x233)]) [1, 2, 3, 4, 5, 6, 0] rfl ?_
            exact hk88 v5 v6 v8 x233
          · refine v_lload (i := 10) hc 7 rfl dX9_surest_203 ?_
            refine v_lload (i := 6) hc 4 rfl dX9_surest_205 ?_
            refine v_lcmp_ne hc 221 dX9_surest_207 dX9_surest_208 rfl ?_ ?_
            · refine v_iload (i := 9) hc 6 rfl dX9_surest_221 ?_
              refine v_istore (i := 5) (L' := [(5, .int v9), (0, .ref v0), (1, .int v1), (4, .int v4), (6, .long v6), (8, .int v8), (9, .int v9), (10, .long v10), (12, .int v12), (13, .int v13)]) hc dX9_surest_223 (hn 5 (Nat.le_of_ble_eq_true rfl)) rfl ?_
              refine v_lload (i := 10) hc 7 rfl dX9_surest_225 ?_
              refine v_lstore (i := 6) (L' := [(6, .long v10), (5, .int v9), (0, .ref v0), (1, .int v1), (4, .int v4), (8, .int v8), (9, .int v9), (10, .long v10), (12, .int v12), (13, .int v13)]) hc dX9_surest_227 (hn 7 (Nat.le_of_ble_eq_true rfl)) rfl ?_
              refine v_iload (i := 12) hc 8 rfl dX9_surest_229 ?_
              refine v_istore (i := 8) (L' := [(8, .int v12), (6, .long v10), (5, .int v9), (0, .ref v0), (1, .int v1), (4, .int v4), (9, .int v9), (10, .long v10), (12, .int v12), (13, .int v13)]) hc dX9_surest_231 (hn 8 (Nat.le_of_ble_eq_true rfl)) rfl ?_
              refine v_iincN (i := 9) (y := (1 : Int32)) (L' := fun z => [(9, .int z), (8, .int v12), (6, .long v10), (5, .int v9), (0, .ref v0), (1, .int v1), (4, .int v4), (10, .long v10), (12, .int v12), (13, .int v13)]) hc 6 rfl dX9_surest_233 zi_1 (hn 9 (Nat.le_of_ble_eq_true rfl)) (fun _ => rfl) fun x233 => ?_
              refine v_goto hc 88 dX9_surest_236 rfl ?_
              refine v_sub (L' := [(0, .ref v0), (1, .int v1), (4, .int v4), (5, .int v9), (6, .long v10), (8, .int v12), (9, .int x233)]) [4, 5, 6, 3, 2, 1, 0] rfl ?_
              exact hk88 v9 v10 v12 x233
            · refine v_iload (i := 12) hc 8 rfl dX9_surest_211 ?_
              refine v_iload (i := 8) hc 5 rfl dX9_surest_213 ?_
              refine v_icmp_lt hc 221 dX9_surest_215 rfl ?_ ?_
              · refine v_iload (i := 9) hc 6 rfl dX9_surest_221 ?_
                refine v_istore (i := 5) (L' := [(5, .int v9), (0, .ref v0), (1, .int v1), (4, .int v4), (6, .long v6), (8, .int v8), (9, .int v9), (10, .long v10), (12, .int v12), (13, .int v13)]) hc dX9_surest_223 (hn 5 (Nat.le_of_ble_eq_true rfl)) rfl ?_
                refine v_lload (i := 10) hc 7 rfl dX9_surest_225 ?_
                refine v_lstore (i := 6) (L' := [(6, .long v10), (5, .int v9), (0, .ref v0), (1, .int v1), (4, .int v4), (8, .int v8), (9, .int v9), (10, .long v10), (12, .int v12), (13, .int v13)]) hc dX9_surest_227 (hn 7 (Nat.le_of_ble_eq_true rfl)) rfl ?_
                refine v_iload (i := 12) hc 8 rfl dX9_surest_229 ?_
                refine v_istore (i := 8) (L' := [(8, .int v12), (6, .long v10), (5, .int v9), (0, .ref v0), (1, .int v1), (4, .int v4), (9, .int v9), (10, .long v10), (12, .int v12), (13, .int v13)]) hc dX9_surest_231 (hn 8 (Nat.le_of_ble_eq_true rfl)) rfl ?_
                refine v_iincN (i := 9) (y := (1 : Int32)) (L' := fun z => [(9, .int z), (8, .int v12), (6, .long v10), (5, .int v9), (0, .ref v0), (1, .int v1), (4, .int v4), (10, .long v10), (12, .int v12), (13, .int v13)]) hc 6 rfl dX9_surest_233 zi_1 (hn 9 (Nat.le_of_ble_eq_true rfl)) (fun _ => rfl) fun x233 => ?_
                refine v_goto hc 88 dX9_surest_236 rfl ?_
                refine v_sub (L' := [(0, .ref v0), (1, .int v1), (4, .int v4), (5, .int v9), (6, .long v10), (8, .int v12), (9, .int x233)]) [4, 5, 6, 3, 2, 1, 0] rfl ?_
                exact hk88 v9 v10 v12 x233
              · refine v_goto hc 233 dX9_surest_218 rfl ?_
                refine v_iincN (i := 9) (y := (1 : Int32)) (L' := fun z => [(9, .int z), (0, .ref v0), (1, .int v1), (4, .int v4), (5, .int v5), (6, .long v6), (8, .int v8), (10, .long v10), (12, .int v12), (13, .int v13)]) hc 6 rfl dX9_surest_233 zi_1 (hn 9 (Nat.le_of_ble_eq_true rfl)) (fun _ => rfl) fun x233 => ?_
                refine v_goto hc 88 dX9_surest_236 rfl ?_
                refine v_sub (L' := [(0, .ref v0), (1, .int v1), (4, .int v4), (5, .int v5), (6, .long v6), (8, .int v8), (9, .int x233)]) [1, 2, 3, 4, 5, 6, 0] rfl ?_
                exact hk88 v5 v6 v8 x233
    · refine v_iload (i := 9) hc 6 rfl dX9_surest_113 ?_
      refine v_iload (i := 13) hc 9 rfl dX9_surest_115 ?_
      refine v_ishr hc dX9_surest_117 ?_
      refine v_iconst (x := (1 : Int32)) hc dX9_surest_118 zi_1 ?_
      refine v_iand hc dX9_surest_119 ?_
      refine v_iconst (x := (1 : Int32)) hc dX9_surest_120 zi_1 ?_
      refine v_icmp_ne hc 128 dX9_surest_121 rfl ?_ ?_
      · refine v_iconst (x := (0 : Int32)) hc dX9_surest_128 zi_0 ?_
        refine v_istore (i := 14) (L' := [(14, .int (0 : Int32)), (0, .ref v0), (1, .int v1), (4, .int v4), (5, .int v5), (6, .long v6), (8, .int v8), (9, .int v9), (10, .long v10), (12, .int v12), (13, .int v13)]) hc dX9_surest_129 (hn 14 (Nat.le_of_ble_eq_true rfl)) rfl ?_
        refine v_lload (i := 10) hc 8 rfl dX9_surest_131 ?_
        refine v_iload (i := 14) hc 0 rfl dX9_surest_133 ?_
        refine v_if_eq hc 149 dX9_surest_135 rfl ?_ ?_
        · refine v_ldc2 (x := (1000 : Int64)) hc w_1535 dX9_surest_149 ?_
          refine v_sub (L' := [(0, .ref v0), (1, .int v1), (4, .int v4), (5, .int v5), (6, .long v6), (8, .int v8), (9, .int v9), (12, .int v12), (13, .int v13), (14, .int (bI false))]) [1, 2, 3, 4, 5, 6, 7, 9, 10, 0] rfl ?_
          exact vl9_surest_152 hc hr hq hL k88 (fun v10 v12 v13 => f9_surest_106 k88 h v0 v1 v4 v5 v6 v8 v9 n v10 v12 v13) h v0 v1 v4 v5 v6 v8 v9 hk88 ih v12 v13 false v10 (1000 : Int64)
        · refine v_aload_n (i := 0) hc 1 rfl dX9_surest_138 rfl ?_
          refine v_getV hc kX9 33 (by decide) w_1164 rfl dX9_surest_139 (gR rfl fun x139 => ?_)
          refine v_iload (i := 13) hc 10 rfl dX9_surest_142 ?_
          refine v_iald hc dX9_surest_144 fun x144 => ?_
          refine v_i2l hc dX9_surest_145 ?_
          refine v_goto hc 152 dX9_surest_146 rfl ?_
          refine v_sub (L' := [(0, .ref v0), (1, .int v1), (4, .int v4), (5, .int v5), (6, .long v6), (8, .int v8), (9, .int v9), (12, .int v12), (13, .int v13), (14, .int (bI false))]) [1, 2, 3, 4, 5, 6, 7, 9, 10, 0] rfl ?_
          exact vl9_surest_152 hc hr hq hL k88 (fun v10 v12 v13 => f9_surest_106 k88 h v0 v1 v4 v5 v6 v8 v9 n v10 v12 v13) h v0 v1 v4 v5 v6 v8 v9 hk88 ih v12 v13 false v10 x144.toInt64
      · refine v_iconst (x := (1 : Int32)) hc dX9_surest_124 zi_1 ?_
        refine v_goto hc 129 dX9_surest_125 rfl ?_
        refine v_istore (i := 14) (L' := [(14, .int (1 : Int32)), (0, .ref v0), (1, .int v1), (4, .int v4), (5, .int v5), (6, .long v6), (8, .int v8), (9, .int v9), (10, .long v10), (12, .int v12), (13, .int v13)]) hc dX9_surest_129 (hn 14 (Nat.le_of_ble_eq_true rfl)) rfl ?_
        refine v_lload (i := 10) hc 8 rfl dX9_surest_131 ?_
        refine v_iload (i := 14) hc 0 rfl dX9_surest_133 ?_
        refine v_if_eq hc 149 dX9_surest_135 rfl ?_ ?_
        · refine v_ldc2 (x := (1000 : Int64)) hc w_1535 dX9_surest_149 ?_
          refine v_sub (L' := [(0, .ref v0), (1, .int v1), (4, .int v4), (5, .int v5), (6, .long v6), (8, .int v8), (9, .int v9), (12, .int v12), (13, .int v13), (14, .int (bI true))]) [1, 2, 3, 4, 5, 6, 7, 9, 10, 0] rfl ?_
          exact vl9_surest_152 hc hr hq hL k88 (fun v10 v12 v13 => f9_surest_106 k88 h v0 v1 v4 v5 v6 v8 v9 n v10 v12 v13) h v0 v1 v4 v5 v6 v8 v9 hk88 ih v12 v13 true v10 (1000 : Int64)
        · refine v_aload_n (i := 0) hc 1 rfl dX9_surest_138 rfl ?_
          refine v_getV hc kX9 33 (by decide) w_1164 rfl dX9_surest_139 (gR rfl fun x139 => ?_)
          refine v_iload (i := 13) hc 10 rfl dX9_surest_142 ?_
          refine v_iald hc dX9_surest_144 fun x144 => ?_
          refine v_i2l hc dX9_surest_145 ?_
          refine v_goto hc 152 dX9_surest_146 rfl ?_
          refine v_sub (L' := [(0, .ref v0), (1, .int v1), (4, .int v4), (5, .int v5), (6, .long v6), (8, .int v8), (9, .int v9), (12, .int v12), (13, .int v13), (14, .int (bI true))]) [1, 2, 3, 4, 5, 6, 7, 9, 10, 0] rfl ?_
          exact vl9_surest_152 hc hr hq hL k88 (fun v10 v12 v13 => f9_surest_106 k88 h v0 v1 v4 v5 v6 v8 v9 n v10 v12 v13) h v0 v1 v4 v5 v6 v8 v9 hk88 ih v12 v13 true v10 x144.toInt64
def f9_surest_88 (h : AH) (v0 : Nat) (v1 : Int32) (v4 : Int32) : Nat → Int32 → Int64 → Int32 → Int32 → Option (Int32 × AH)
  | 0, _, _, _, _ => none
  | n + 1, v5, v6, v8, v9 => (if ((1 : Int32) <<< (v4 &&& 31)) ≤ v9 then some (v5, h) else (some (1 : Int64)).bind fun x98 => f9_surest_106 (fun v5 v6 v8 v9 => f9_surest_88 h v0 v1 v4 n v5 v6 v8 v9) h v0 v1 v4 v5 v6 v8 v9 FU x98 (0 : Int32) (0 : Int32))
set_option maxRecDepth 100000 in
theorem vl9_surest_88 {κ : Kx} (hc : CX κ RX9 cX9_surest) (hr : RX κ ({ frames := 6, cells := 0, slots := 0, locals := 141 } : Room)) (hq : QX κ (some .int) 0 0) (hL : 15 = κ.2.2.2.2.1)  (h : AH) (v0 : Nat) (v1 : Int32) (v4 : Int32) : ∀ n (v5 : Int32) (v6 : Int64) (v8 : Int32) (v9 : Int32), V κ (wI) 0 0 88 [(0, .ref v0), (1, .int v1), (4, .int v4), (5, .int v5), (6, .long v6), (8, .int v8), (9, .int v9)] [] h (f9_surest_88 h v0 v1 v4 n v5 v6 v8 v9) := by
  have hn : ∀ i, i < 15 → i < κ.2.2.2.2.1 := fun i q => hL ▸ q
  intro n
  induction n with
  | zero => intros; exact v_none
  | succ n ih =>
    intro v5 v6 v8 v9
    rw [f9_surest_88.eq_2]
    refine v_iload (i := 9) hc 6 rfl dX9_surest_88 ?_
    refine v_iconst (x := (1 : Int32)) hc dX9_surest_90 zi_1 ?_
    refine v_iload (i := 4) hc 2 rfl dX9_surest_91 ?_
    refine v_ishl hc dX9_surest_93 ?_
    refine v_icmp_ge hc 239 dX9_surest_94 rfl ?_ ?_
    · refine v_iload (i := 5) hc 3 rfl dX9_surest_239 ?_
      exact v_iret hc hq rfl rfl (Nat.le_of_ble_eq_true rfl) (Nat.le_of_ble_eq_true rfl) rfl dX9_surest_241
    · refine v_lconst (x := (1 : Int64)) hc dX9_surest_97 (by decide) ?_
      refine v_nmL fun x98 => ?_
      refine v_lstore (i := 10) (L' := [(10, .long x98), (0, .ref v0), (1, .int v1), (4, .int v4), (5, .int v5), (6, .long v6), (8, .int v8), (9, .int v9)]) hc dX9_surest_98 (hn 11 (Nat.le_of_ble_eq_true rfl)) rfl ?_
      refine v_iconst (x := (0 : Int32)) hc dX9_surest_100 zi_0 ?_
      refine v_istore (i := 12) (L' := [(12, .int (0 : Int32)), (10, .long x98), (0, .ref v0), (1, .int v1), (4, .int v4), (5, .int v5), (6, .long v6), (8, .int v8), (9, .int v9)]) hc dX9_surest_101 (hn 12 (Nat.le_of_ble_eq_true rfl)) rfl ?_
      refine v_iconst (x := (0 : Int32)) hc dX9_surest_103 zi_0 ?_
      refine v_istore (i := 13) (L' := [(13, .int (0 : Int32)), (12, .int (0 : Int32)), (10, .long x98), (0, .ref v0), (1, .int v1), (4, .int v4), (5, .int v5), (6, .long v6), (8, .int v8), (9, .int v9)]) hc dX9_surest_104 (hn 13 (Nat.le_of_ble_eq_true rfl)) rfl ?_
      refine v_sub (L' := [(0, .ref v0), (1, .int v1), (4, .int v4), (5, .int v5), (6, .long v6), (8, .int v8), (9, .int v9), (10, .long x98), (12, .int (0 : Int32)), (13, .int (0 : Int32))]) [3, 4, 5, 6, 7, 8, 9, 2, 1, 0] rfl ?_
      exact vl9_surest_106 hc hr hq hL (fun v5 v6 v8 v9 => f9_surest_88 h v0 v1 v4 n v5 v6 v8 v9) h v0 v1 v4 v5 v6 v8 v9 ih FU x98 (0 : Int32) (0 : Int32)
def f9_surest_46 (v0 : Nat) (v1 : Int32) (v2 : Int32) (v3 : Int32) (v4 : Int32) : Nat → AH → Int32 → Option (Int32 × AH)
  | 0, _, _ => none
  | n + 1, h, v5 => (if v4 ≤ v5 then (some (-1 : Int64)).bind fun x80 => f9_surest_88 h v0 v1 v4 FU (0 : Int32) x80 (0 : Int32) (0 : Int32) else (fR 9 33 h v0).bind fun x54 => (f9_chanceOf h v0 v5 v2 v3).bind fun x64 => (sI 0 x64.2 x54 v5 x64.1).bind fun h67 => (some (v5 + (1 : Int32))).bind fun x68 => f9_surest_46 v0 v1 v2 v3 v4 n h67 x68)
set_option maxRecDepth 100000 in
theorem vl9_surest_46 {κ : Kx} (hc : CX κ RX9 cX9_surest) (hr : RX κ ({ frames := 6, cells := 0, slots := 0, locals := 141 } : Room)) (hq : QX κ (some .int) 0 0) (hL : 15 = κ.2.2.2.2.1)  (v0 : Nat) (v1 : Int32) (v2 : Int32) (v3 : Int32) (v4 : Int32) : ∀ n (h : AH) (v5 : Int32), V κ (wI) 0 0 46 [(0, .ref v0), (1, .int v1), (2, .int v2), (3, .int v3), (4, .int v4), (5, .int v5)] [] h (f9_surest_46 v0 v1 v2 v3 v4 n h v5) := by
  have hn : ∀ i, i < 15 → i < κ.2.2.2.2.1 := fun i q => hL ▸ q
  intro n
  induction n with
  | zero => intros; exact v_none
  | succ n ih =>
    intro h v5
    rw [f9_surest_46.eq_2]
    refine v_iload (i := 5) hc 5 rfl dX9_surest_46 ?_
    refine v_iload (i := 4) hc 4 rfl dX9_surest_48 ?_
    refine v_icmp_ge hc 74 dX9_surest_50 rfl ?_ ?_
    · refine v_iconst (x := (0 : Int32)) hc dX9_surest_74 zi_0 ?_
      refine v_istore (i := 5) (L' := [(5, .int (0 : Int32)), (0, .ref v0), (1, .int v1), (2, .int v2), (3, .int v3), (4, .int v4)]) hc dX9_surest_75 (hn 5 (Nat.le_of_ble_eq_true rfl)) rfl ?_
      refine v_ldc2 (x := (-1 : Int64)) hc w_1631 dX9_surest_77 ?_
      refine v_nmL fun x80 => ?_
      refine v_lstore (i := 6) (L' := [(6, .long x80), (5, .int (0 : Int32)), (0, .ref v0), (1, .int v1), (2, .int v2), (3, .int v3), (4, .int v4)]) hc dX9_surest_80 (hn 7 (Nat.le_of_ble_eq_true rfl)) rfl ?_
      refine v_iconst (x := (0 : Int32)) hc dX9_surest_82 zi_0 ?_
      refine v_istore (i := 8) (L' := [(8, .int (0 : Int32)), (6, .long x80), (5, .int (0 : Int32)), (0, .ref v0), (1, .int v1), (2, .int v2), (3, .int v3), (4, .int v4)]) hc dX9_surest_83 (hn 8 (Nat.le_of_ble_eq_true rfl)) rfl ?_
      refine v_iconst (x := (0 : Int32)) hc dX9_surest_85 zi_0 ?_
      refine v_istore (i := 9) (L' := [(9, .int (0 : Int32)), (8, .int (0 : Int32)), (6, .long x80), (5, .int (0 : Int32)), (0, .ref v0), (1, .int v1), (2, .int v2), (3, .int v3), (4, .int v4)]) hc dX9_surest_86 (hn 9 (Nat.le_of_ble_eq_true rfl)) rfl ?_
      refine v_sub (L' := [(0, .ref v0), (1, .int v1), (4, .int v4), (5, .int (0 : Int32)), (6, .long x80), (8, .int (0 : Int32)), (9, .int (0 : Int32))]) [4, 5, 8, 3, 2, 1, 0] rfl ?_
      exact vl9_surest_88 hc hr hq hL h v0 v1 v4 FU (0 : Int32) x80 (0 : Int32) (0 : Int32)
    · refine v_aload_n (i := 0) hc 0 rfl dX9_surest_53 rfl ?_
      refine v_getV hc kX9 33 (by decide) w_1164 rfl dX9_surest_54 (gR rfl fun x54 => ?_)
      refine v_iload (i := 5) hc 5 rfl dX9_surest_57 ?_
      refine v_aload_n (i := 0) hc 0 rfl dX9_surest_59 rfl ?_
      refine v_iload (i := 5) hc 5 rfl dX9_surest_60 ?_
      refine v_iload_n (i := 2) hc 2 rfl dX9_surest_62 rfl ?_
      refine v_iload_n (i := 3) hc 3 rfl dX9_surest_63 rfl ?_
      refine v_cwI hc (m_V' (As := [.int v5, .int v2, .int v3]) (b := v0) (rest := [.int v5, .ref x54]) 3 hc hr (fun l D tys base => ct9_chanceOf l D tys base h v0 v5 v2 v3) (fun x hx => ob9_chanceOf hx) rfl s9_chanceOf w_1508 rfl ⟨Nat.le_of_ble_eq_true rfl, Nat.le_of_ble_eq_true rfl⟩ ⟨Nat.le_of_ble_eq_true rfl, Nat.le_of_ble_eq_true rfl⟩ (Nat.le_of_ble_eq_true rfl) dX9_surest_64) fun x64 => ?_
      refine v_iast hc dX9_surest_67 fun h67 => ?_
      refine v_iincN (i := 5) (y := (1 : Int32)) (L' := fun z => [(5, .int z), (0, .ref v0), (1, .int v1), (2, .int v2), (3, .int v3), (4, .int v4)]) hc 5 rfl dX9_surest_68 zi_1 (hn 5 (Nat.le_of_ble_eq_true rfl)) (fun _ => rfl) fun x68 => ?_
      refine v_goto hc 46 dX9_surest_71 rfl ?_
      refine v_sub (L' := [(0, .ref v0), (1, .int v1), (2, .int v2), (3, .int v3), (4, .int v4), (5, .int x68)]) [1, 2, 3, 4, 5, 0] rfl ?_
      exact ih h67 x68
def f9_surest (h : AH) (this : Nat) (p0 : Int32) (p1 : Int32) (p2 : Int32) : Option (Int32 × AH) := (hObj 9 h this).bind fun _ => (f9_in h p0.toInt64 (0 : Int64) (9999 : Int64)).bind fun x6 => (if x6 = true then (f9_areTwo h this p1 p2).bind fun x15 => (if x15 = true then (fI 9 14 h this).bind fun x24 => (if (6 : Int32) ≤ x24 then f9_surest_46 this p0 p1 p2 (6 : Int32) FU h (0 : Int32) else (fI 9 14 h this).bind fun x33 => f9_surest_46 this p0 p1 p2 x33 FU h (0 : Int32)) else some ((-1 : Int32), h)) else some ((-1 : Int32), h))
theorem ob9_surest {h : AH} {this : Nat} {p0 : Int32} {p1 : Int32} {p2 : Int32} {x : Int32 × AH} (e : f9_surest h this p0 p1 p2 = some x) : ∃ fs, hObj 9 h this = some fs := by
  unfold f9_surest at e
  obtain ⟨fs, h1, -⟩ := bd e
  exact ⟨fs, h1⟩
set_option maxRecDepth 100000 in
theorem ct9_surest (l : Launch) (D : va_G) (tys : Tys) (base : Nat) (h : AH) (this : Nat) (p0 : Int32) (p1 : Int32) (p2 : Int32) : Ct l D tys base yX9_surest cX9_surest 15 (some .int) 6 141 0 0 [.ref this, .int p0, .int p1, .int p2] h (wI) (f9_surest h this p0 p1 p2) := by
  refine Ct.intro (own := RX9) (L := [(0, .ref this), (1, .int p0), (2, .int p1), (3, .int p2)]) rfl (by decide) rfl (Nat.le_of_ble_eq_true rfl) fun κ hc hr hq hi hL => ?_
  have hn : ∀ i, i < 15 → i < κ.2.2.2.2.1 := fun i q => hL ▸ q
  unfold f9_surest
  refine v_obj ?_
  refine v_iload_n (i := 1) hc 1 rfl dX9_surest_0 rfl ?_
  refine v_i2l hc dX9_surest_1 ?_
  refine v_lconst (x := (0 : Int64)) hc dX9_surest_2 (by decide) ?_
  refine v_ldc2 (x := (9999 : Int64)) hc w_1281 dX9_surest_3 ?_
  refine v_cB hc (m_S' (As := [.long p0.toInt64, .long (0 : Int64), .long (9999 : Int64)]) (rest := []) 3 hc hr (fun l D tys base => ct9_in l D tys base h p0.toInt64 (0 : Int64) (9999 : Int64)) s9_in w_1246 rfl ⟨Nat.le_of_ble_eq_true rfl, Nat.le_of_ble_eq_true rfl⟩ ⟨Nat.le_of_ble_eq_true rfl, Nat.le_of_ble_eq_true rfl⟩ (Nat.le_of_ble_eq_true rfl) dX9_surest_6) fun x6 => ?_
  refine v_ifb_eq hc 21 dX9_surest_9 rfl ?_ ?_
  · refine v_iconst (x := (-1 : Int32)) hc dX9_surest_21 zi_m1 ?_
    exact v_iret hc hq rfl rfl (Nat.le_of_ble_eq_true rfl) (Nat.le_of_ble_eq_true rfl) rfl dX9_surest_22
  · refine v_aload_n (i := 0) hc 0 rfl dX9_surest_12 rfl ?_
    refine v_iload_n (i := 2) hc 2 rfl dX9_surest_13 rfl ?_
    refine v_iload_n (i := 3) hc 3 rfl dX9_surest_14 rfl ?_
    refine v_cB hc (m_V' (As := [.int p1, .int p2]) (b := this) (rest := []) 2 hc hr (fun l D tys base => ct9_areTwo l D tys base h this p1 p2) (fun x hx => ob9_areTwo hx) rfl s9_areTwo w_1504 rfl ⟨Nat.le_of_ble_eq_true rfl, Nat.le_of_ble_eq_true rfl⟩ ⟨Nat.le_of_ble_eq_true rfl, Nat.le_of_ble_eq_true rfl⟩ (Nat.le_of_ble_eq_true rfl) dX9_surest_15) fun x15 => ?_
    refine v_ifb_ne hc 23 dX9_surest_18 rfl ?_ ?_
    · refine v_aload_n (i := 0) hc 0 rfl dX9_surest_23 rfl ?_
      refine v_getV hc kX9 14 (by decide) w_1145 rfl dX9_surest_24 (gI rfl fun x24 => ?_)
      refine v_bipush (x := (6 : Int32)) hc dX9_surest_27 zb_6 ?_
      refine v_icmp_ge hc 39 dX9_surest_29 rfl ?_ ?_
      · refine v_bipush (x := (6 : Int32)) hc dX9_surest_39 zb_6 ?_
        refine v_istore (i := 4) (L' := [(4, .int (6 : Int32)), (0, .ref this), (1, .int p0), (2, .int p1), (3, .int p2)]) hc dX9_surest_41 (hn 4 (Nat.le_of_ble_eq_true rfl)) rfl ?_
        refine v_iconst (x := (0 : Int32)) hc dX9_surest_43 zi_0 ?_
        refine v_istore (i := 5) (L' := [(5, .int (0 : Int32)), (4, .int (6 : Int32)), (0, .ref this), (1, .int p0), (2, .int p1), (3, .int p2)]) hc dX9_surest_44 (hn 5 (Nat.le_of_ble_eq_true rfl)) rfl ?_
        refine v_sub (L' := [(0, .ref this), (1, .int p0), (2, .int p1), (3, .int p2), (4, .int (6 : Int32)), (5, .int (0 : Int32))]) [2, 3, 4, 5, 1, 0] rfl ?_
        exact vl9_surest_46 hc hr hq hL this p0 p1 p2 (6 : Int32) FU h (0 : Int32)
      · refine v_aload_n (i := 0) hc 0 rfl dX9_surest_32 rfl ?_
        refine v_getV hc kX9 14 (by decide) w_1145 rfl dX9_surest_33 (gI rfl fun x33 => ?_)
        refine v_goto hc 41 dX9_surest_36 rfl ?_
        refine v_istore (i := 4) (L' := [(4, .int x33), (0, .ref this), (1, .int p0), (2, .int p1), (3, .int p2)]) hc dX9_surest_41 (hn 4 (Nat.le_of_ble_eq_true rfl)) rfl ?_
        refine v_iconst (x := (0 : Int32)) hc dX9_surest_43 zi_0 ?_
        refine v_istore (i := 5) (L' := [(5, .int (0 : Int32)), (4, .int x33), (0, .ref this), (1, .int p0), (2, .int p1), (3, .int p2)]) hc dX9_surest_44 (hn 5 (Nat.le_of_ble_eq_true rfl)) rfl ?_
        refine v_sub (L' := [(0, .ref this), (1, .int p0), (2, .int p1), (3, .int p2), (4, .int x33), (5, .int (0 : Int32))]) [2, 3, 4, 5, 1, 0] rfl ?_
        exact vl9_surest_46 hc hr hq hL this p0 p1 p2 x33 FU h (0 : Int32)
    · refine v_iconst (x := (-1 : Int32)) hc dX9_surest_21 zi_m1 ?_
      exact v_iret hc hq rfl rfl (Nat.le_of_ble_eq_true rfl) (Nat.le_of_ble_eq_true rfl) rfl dX9_surest_22
theorem s9_surest : YV yX9_surest RX9 cX9_surest 15 (some .int) 3 := ⟨w_1643, w_1641, w_1642, w_118, rfl, by decide +kernel, by decide +kernel, by decide +kernel⟩
def f9_person (h : AH) (this : Nat) (p0 : Int32) (p1 : Int32) (p2 : Int32) (p3 : Int32) : Option (Int32 × AH) := (hObj 9 h this).bind fun _ => (fR 9 0 h this).bind fun x1 => (aI 0 h x1 (8 : Int32)).bind fun x6 => (if x6 = (8 : Int32) then some ((-1 : Int32), h) else (f9_isDay h p0).bind fun x13 => (if x13 = true then (f9_isDay h p1).bind fun x20 => (if x20 = true then (if p1 < p0 then some ((-1 : Int32), h) else (f9_in h p2.toInt64 (0 : Int64) (999 : Int64)).bind fun x37 => (if x37 = true then (f9_isWeek h p3).bind fun x45 => (if x45 = true then (fR 9 0 h this).bind fun x58 => (aI 0 h x58 (8 : Int32)).bind fun x63 => (some ((5030 : Int32) + ((5 : Int32) * x63))).bind fun x66 => (fR 9 0 h this).bind fun x69 => (sI 0 h x69 x66 p0).bind fun h75 => (fR 9 0 h75 this).bind fun x77 => (sI 0 h75 x77 (x66 + (1 : Int32)) p1).bind fun h85 => (fR 9 0 h85 this).bind fun x87 => (sI 0 h85 x87 (x66 + (2 : Int32)) p2).bind fun h95 => (fR 9 0 h95 this).bind fun x97 => (sI 0 h95 x97 (x66 + (3 : Int32)) p3).bind fun h106 => (fR 9 0 h106 this).bind fun x108 => (sI 0 h106 x108 (x66 + (4 : Int32)) (-1 : Int32)).bind fun h116 => (fR 9 0 h116 this).bind fun x118 => (aI 0 h116 x118 (8 : Int32)).bind fun x124 => (sI 0 h116 x118 (8 : Int32) (x124 + (1 : Int32))).bind fun h127 => (fR 9 0 h127 this).bind fun x129 => (aI 0 h127 x129 (8 : Int32)).bind fun x134 => some (x134 - (1 : Int32), h127) else some ((-1 : Int32), h)) else some ((-1 : Int32), h))) else some ((-1 : Int32), h)) else some ((-1 : Int32), h)))
theorem ob9_person {h : AH} {this : Nat} {p0 : Int32} {p1 : Int32} {p2 : Int32} {p3 : Int32} {x : Int32 × AH} (e : f9_person h this p0 p1 p2 p3 = some x) : ∃ fs, hObj 9 h this = some fs := by
  unfold f9_person at e
  obtain ⟨fs, h1, -⟩ := bd e
  exact ⟨fs, h1⟩
set_option maxRecDepth 100000 in
theorem ct9_person (l : Launch) (D : va_G) (tys : Tys) (base : Nat) (h : AH) (this : Nat) (p0 : Int32) (p1 : Int32) (p2 : Int32) (p3 : Int32) : Ct l D tys base yX9_person cX9_person 6 (some .int) 1 25 0 0 [.ref this, .int p0, .int p1, .int p2, .int p3] h (wI) (f9_person h this p0 p1 p2 p3) := by
  refine Ct.intro (own := RX9) (L := [(0, .ref this), (1, .int p0), (2, .int p1), (3, .int p2), (4, .int p3)]) rfl (by decide) rfl (Nat.le_of_ble_eq_true rfl) fun κ hc hr hq hi hL => ?_
  have hn : ∀ i, i < 6 → i < κ.2.2.2.2.1 := fun i q => hL ▸ q
  unfold f9_person
  refine v_obj ?_
  refine v_aload_n (i := 0) hc 0 rfl dX9_person_0 rfl ?_
  refine v_getV hc kX9 0 (by decide) w_1131 rfl dX9_person_1 (gR rfl fun x1 => ?_)
  refine v_bipush (x := (8 : Int32)) hc dX9_person_4 zb_8 ?_
  refine v_iald hc dX9_person_6 fun x6 => ?_
  refine v_bipush (x := (8 : Int32)) hc dX9_person_7 zb_8 ?_
  refine v_icmp_eq hc 51 dX9_person_9 rfl ?_ ?_
  · refine v_iconst (x := (-1 : Int32)) hc dX9_person_51 zi_m1 ?_
    exact v_iret hc hq rfl rfl (Nat.le_of_ble_eq_true rfl) (Nat.le_of_ble_eq_true rfl) rfl dX9_person_52
  · refine v_iload_n (i := 1) hc 1 rfl dX9_person_12 rfl ?_
    refine v_cB hc (m_S' (As := [.int p0]) (rest := []) 1 hc hr (fun l D tys base => ct9_isDay l D tys base h p0) s9_isDay w_1260 rfl ⟨Nat.le_of_ble_eq_true rfl, Nat.le_of_ble_eq_true rfl⟩ ⟨Nat.le_of_ble_eq_true rfl, Nat.le_of_ble_eq_true rfl⟩ (Nat.le_of_ble_eq_true rfl) dX9_person_13) fun x13 => ?_
    refine v_ifb_eq hc 51 dX9_person_16 rfl ?_ ?_
    · refine v_iconst (x := (-1 : Int32)) hc dX9_person_51 zi_m1 ?_
      exact v_iret hc hq rfl rfl (Nat.le_of_ble_eq_true rfl) (Nat.le_of_ble_eq_true rfl) rfl dX9_person_52
    · refine v_iload_n (i := 2) hc 2 rfl dX9_person_19 rfl ?_
      refine v_cB hc (m_S' (As := [.int p1]) (rest := []) 1 hc hr (fun l D tys base => ct9_isDay l D tys base h p1) s9_isDay w_1260 rfl ⟨Nat.le_of_ble_eq_true rfl, Nat.le_of_ble_eq_true rfl⟩ ⟨Nat.le_of_ble_eq_true rfl, Nat.le_of_ble_eq_true rfl⟩ (Nat.le_of_ble_eq_true rfl) dX9_person_20) fun x20 => ?_
      refine v_ifb_eq hc 51 dX9_person_23 rfl ?_ ?_
      · refine v_iconst (x := (-1 : Int32)) hc dX9_person_51 zi_m1 ?_
        exact v_iret hc hq rfl rfl (Nat.le_of_ble_eq_true rfl) (Nat.le_of_ble_eq_true rfl) rfl dX9_person_52
      · refine v_iload_n (i := 2) hc 2 rfl dX9_person_26 rfl ?_
        refine v_iload_n (i := 1) hc 1 rfl dX9_person_27 rfl ?_
        refine v_icmp_lt hc 51 dX9_person_28 rfl ?_ ?_
        · refine v_iconst (x := (-1 : Int32)) hc dX9_person_51 zi_m1 ?_
          exact v_iret hc hq rfl rfl (Nat.le_of_ble_eq_true rfl) (Nat.le_of_ble_eq_true rfl) rfl dX9_person_52
        · refine v_iload_n (i := 3) hc 3 rfl dX9_person_31 rfl ?_
          refine v_i2l hc dX9_person_32 ?_
          refine v_lconst (x := (0 : Int64)) hc dX9_person_33 (by decide) ?_
          refine v_ldc2 (x := (999 : Int64)) hc w_1648 dX9_person_34 ?_
          refine v_cB hc (m_S' (As := [.long p2.toInt64, .long (0 : Int64), .long (999 : Int64)]) (rest := []) 3 hc hr (fun l D tys base => ct9_in l D tys base h p2.toInt64 (0 : Int64) (999 : Int64)) s9_in w_1246 rfl ⟨Nat.le_of_ble_eq_true rfl, Nat.le_of_ble_eq_true rfl⟩ ⟨Nat.le_of_ble_eq_true rfl, Nat.le_of_ble_eq_true rfl⟩ (Nat.le_of_ble_eq_true rfl) dX9_person_37) fun x37 => ?_
          refine v_ifb_eq hc 51 dX9_person_40 rfl ?_ ?_
          · refine v_iconst (x := (-1 : Int32)) hc dX9_person_51 zi_m1 ?_
            exact v_iret hc hq rfl rfl (Nat.le_of_ble_eq_true rfl) (Nat.le_of_ble_eq_true rfl) rfl dX9_person_52
          · refine v_iload (i := 4) hc 4 rfl dX9_person_43 ?_
            refine v_cB hc (m_S' (As := [.int p3]) (rest := []) 1 hc hr (fun l D tys base => ct9_isWeek l D tys base h p3) s9_isWeek w_1563 rfl ⟨Nat.le_of_ble_eq_true rfl, Nat.le_of_ble_eq_true rfl⟩ ⟨Nat.le_of_ble_eq_true rfl, Nat.le_of_ble_eq_true rfl⟩ (Nat.le_of_ble_eq_true rfl) dX9_person_45) fun x45 => ?_
            refine v_ifb_ne hc 53 dX9_person_48 rfl ?_ ?_
            · refine v_sipush (x := (5030 : Int32)) hc dX9_person_53 zs_5030 ?_
              refine v_iconst (x := (5 : Int32)) hc dX9_person_56 zi_5 ?_
              refine v_aload_n (i := 0) hc 0 rfl dX9_person_57 rfl ?_
              refine v_getV hc kX9 0 (by decide) w_1131 rfl dX9_person_58 (gR rfl fun x58 => ?_)
              refine v_bipush (x := (8 : Int32)) hc dX9_person_61 zb_8 ?_
              refine v_iald hc dX9_person_63 fun x63 => ?_
              refine v_imul hc dX9_person_64 ?_
              refine v_iadd hc dX9_person_65 ?_
              refine v_nmI fun x66 => ?_
              refine v_istore (i := 5) (L' := [(5, .int x66), (0, .ref this), (1, .int p0), (2, .int p1), (3, .int p2), (4, .int p3)]) hc dX9_person_66 (hn 5 (Nat.le_of_ble_eq_true rfl)) rfl ?_
              refine v_aload_n (i := 0) hc 1 rfl dX9_person_68 rfl ?_
              refine v_getV hc kX9 0 (by decide) w_1131 rfl dX9_person_69 (gR rfl fun x69 => ?_)
              refine v_iload (i := 5) hc 0 rfl dX9_person_72 ?_
              refine v_iload_n (i := 1) hc 2 rfl dX9_person_74 rfl ?_
              refine v_iast hc dX9_person_75 fun h75 => ?_
              refine v_aload_n (i := 0) hc 1 rfl dX9_person_76 rfl ?_
              refine v_getV hc kX9 0 (by decide) w_1131 rfl dX9_person_77 (gR rfl fun x77 => ?_)
              refine v_iload (i := 5) hc 0 rfl dX9_person_80 ?_
              refine v_iconst (x := (1 : Int32)) hc dX9_person_82 zi_1 ?_
              refine v_iadd hc dX9_person_83 ?_
              refine v_iload_n (i := 2) hc 3 rfl dX9_person_84 rfl ?_
              refine v_iast hc dX9_person_85 fun h85 => ?_
              refine v_aload_n (i := 0) hc 1 rfl dX9_person_86 rfl ?_
              refine v_getV hc kX9 0 (by decide) w_1131 rfl dX9_person_87 (gR rfl fun x87 => ?_)
              refine v_iload (i := 5) hc 0 rfl dX9_person_90 ?_
              refine v_iconst (x := (2 : Int32)) hc dX9_person_92 zi_2 ?_
              refine v_iadd hc dX9_person_93 ?_
              refine v_iload_n (i := 3) hc 4 rfl dX9_person_94 rfl ?_
              refine v_iast hc dX9_person_95 fun h95 => ?_
              refine v_aload_n (i := 0) hc 1 rfl dX9_person_96 rfl ?_
              refine v_getV hc kX9 0 (by decide) w_1131 rfl dX9_person_97 (gR rfl fun x97 => ?_)
              refine v_iload (i := 5) hc 0 rfl dX9_person_100 ?_
              refine v_iconst (x := (3 : Int32)) hc dX9_person_102 zi_3 ?_
              refine v_iadd hc dX9_person_103 ?_
              refine v_iload (i := 4) hc 5 rfl dX9_person_104 ?_
              refine v_iast hc dX9_person_106 fun h106 => ?_
              refine v_aload_n (i := 0) hc 1 rfl dX9_person_107 rfl ?_
              refine v_getV hc kX9 0 (by decide) w_1131 rfl dX9_person_108 (gR rfl fun x108 => ?_)
              refine v_iload (i := 5) hc 0 rfl dX9_person_111 ?_
              refine v_iconst (x := (4 : Int32)) hc dX9_person_113 zi_4 ?_
              refine v_iadd hc dX9_person_114 ?_
              refine v_iconst (x := (-1 : Int32)) hc dX9_person_115 zi_m1 ?_
              refine v_iast hc dX9_person_116 fun h116 => ?_
              refine v_aload_n (i := 0) hc 1 rfl dX9_person_117 rfl ?_
              refine v_getV hc kX9 0 (by decide) w_1131 rfl dX9_person_118 (gR rfl fun x118 => ?_)
              refine v_bipush (x := (8 : Int32)) hc dX9_person_121 zb_8 ?_
              refine v_dup2 hc dX9_person_123 rfl rfl ?_
              refine v_iald hc dX9_person_124 fun x124 => ?_
              refine v_iconst (x := (1 : Int32)) hc dX9_person_125 zi_1 ?_
              refine v_iadd hc dX9_person_126 ?_
              refine v_iast hc dX9_person_127 fun h127 => ?_
              refine v_aload_n (i := 0) hc 1 rfl dX9_person_128 rfl ?_
              refine v_getV hc kX9 0 (by decide) w_1131 rfl dX9_person_129 (gR rfl fun x129 => ?_)
              refine v_bipush (x := (8 : Int32)) hc dX9_person_132 zb_8 ?_
              refine v_iald hc dX9_person_134 fun x134 => ?_
              refine v_iconst (x := (1 : Int32)) hc dX9_person_135 zi_1 ?_
              refine v_isub hc dX9_person_136 ?_
              exact v_iret hc hq rfl rfl (Nat.le_of_ble_eq_true rfl) (Nat.le_of_ble_eq_true rfl) rfl dX9_person_137
            · refine v_iconst (x := (-1 : Int32)) hc dX9_person_51 zi_m1 ?_
              exact v_iret hc hq rfl rfl (Nat.le_of_ble_eq_true rfl) (Nat.le_of_ble_eq_true rfl) rfl dX9_person_52
theorem s9_person : YV yX9_person RX9 cX9_person 6 (some .int) 4 := ⟨w_1647, w_1645, w_1646, w_118, rfl, by decide +kernel, by decide +kernel, by decide +kernel⟩
def f9_isPerson (h : AH) (this : Nat) (p0 : Int32) : Option (Bool) := (hObj 9 h this).bind fun _ => (if p0 < 0 then some false else (fR 9 0 h this).bind fun x6 => (aI 0 h x6 (8 : Int32)).bind fun x11 => (if x11 ≤ p0 then some false else some true))
theorem ob9_isPerson {h : AH} {this : Nat} {p0 : Int32} {x : Bool} (e : f9_isPerson h this p0 = some x) : ∃ fs, hObj 9 h this = some fs := by
  unfold f9_isPerson at e
  obtain ⟨fs, h1, -⟩ := bd e
  exact ⟨fs, h1⟩
set_option maxRecDepth 100000 in
theorem ct9_isPerson (l : Launch) (D : va_G) (tys : Tys) (base : Nat) (h : AH) (this : Nat) (p0 : Int32) : Ct l D tys base yX9_isPerson cX9_isPerson 2 (some .boolean) 0 0 0 0 [.ref this, .int p0] h (rB h) (f9_isPerson h this p0) := by
  refine Ct.intro (own := RX9) (L := [(0, .ref this), (1, .int p0)]) rfl (by decide) rfl (Nat.le_of_ble_eq_true rfl) fun κ hc hr hq hi hL => ?_
  have hn : ∀ i, i < 2 → i < κ.2.2.2.2.1 := fun i q => hL ▸ q
  unfold f9_isPerson
  refine v_obj ?_
  refine v_iload_n (i := 1) hc 1 rfl dX9_isPerson_0 rfl ?_
  refine v_if_lt hc 19 dX9_isPerson_1 rfl ?_ ?_
  · refine v_iconst (x := (0 : Int32)) hc dX9_isPerson_19 zi_0 ?_
    exact v_iret (v := bI false) hc hq rfl (nar_b false) (Nat.le_of_ble_eq_true rfl) (Nat.le_of_ble_eq_true rfl) rfl dX9_isPerson_20
  · refine v_iload_n (i := 1) hc 1 rfl dX9_isPerson_4 rfl ?_
    refine v_aload_n (i := 0) hc 0 rfl dX9_isPerson_5 rfl ?_
    refine v_getV hc kX9 0 (by decide) w_1131 rfl dX9_isPerson_6 (gR rfl fun x6 => ?_)
    refine v_bipush (x := (8 : Int32)) hc dX9_isPerson_9 zb_8 ?_
    refine v_iald hc dX9_isPerson_11 fun x11 => ?_
    refine v_icmp_ge hc 19 dX9_isPerson_12 rfl ?_ ?_
    · refine v_iconst (x := (0 : Int32)) hc dX9_isPerson_19 zi_0 ?_
      exact v_iret (v := bI false) hc hq rfl (nar_b false) (Nat.le_of_ble_eq_true rfl) (Nat.le_of_ble_eq_true rfl) rfl dX9_isPerson_20
    · refine v_iconst (x := (1 : Int32)) hc dX9_isPerson_15 zi_1 ?_
      refine v_goto hc 20 dX9_isPerson_16 rfl ?_
      exact v_iret (v := bI true) hc hq rfl (nar_b true) (Nat.le_of_ble_eq_true rfl) (Nat.le_of_ble_eq_true rfl) rfl dX9_isPerson_20
theorem s9_isPerson : YV yX9_isPerson RX9 cX9_isPerson 2 (some .boolean) 1 := ⟨w_1656, w_1655, w_105, w_118, rfl, by decide +kernel, by decide +kernel, by decide +kernel⟩
def f9_ask (h : AH) (this : Nat) (p0 : Int32) : Option (Bool × AH) := (hObj 9 h this).bind fun _ => (f9_isPerson h this p0).bind fun x2 => (if x2 = true then (fR 9 0 h this).bind fun x9 => (aI 0 h x9 (((5030 : Int32) + ((5 : Int32) * p0)) + (4 : Int32))).bind fun x21 => (if x21 < 0 then (fR 9 0 h this).bind fun x28 => (fR 9 0 h this).bind fun x41 => (aI 0 h x41 (0 : Int32)).bind fun x45 => (sI 0 h x28 (((5030 : Int32) + ((5 : Int32) * p0)) + (4 : Int32)) x45).bind fun h46 => some (true, h46) else some (false, h)) else some (false, h))
theorem ob9_ask {h : AH} {this : Nat} {p0 : Int32} {x : Bool × AH} (e : f9_ask h this p0 = some x) : ∃ fs, hObj 9 h this = some fs := by
  unfold f9_ask at e
  obtain ⟨fs, h1, -⟩ := bd e
  exact ⟨fs, h1⟩
set_option maxRecDepth 100000 in
theorem ct9_ask (l : Launch) (D : va_G) (tys : Tys) (base : Nat) (h : AH) (this : Nat) (p0 : Int32) : Ct l D tys base yX9_ask cX9_ask 2 (some .boolean) 1 21 0 0 [.ref this, .int p0] h (wB) (f9_ask h this p0) := by
  refine Ct.intro (own := RX9) (L := [(0, .ref this), (1, .int p0)]) rfl (by decide) rfl (Nat.le_of_ble_eq_true rfl) fun κ hc hr hq hi hL => ?_
  have hn : ∀ i, i < 2 → i < κ.2.2.2.2.1 := fun i q => hL ▸ q
  unfold f9_ask
  refine v_obj ?_
  refine v_aload_n (i := 0) hc 0 rfl dX9_ask_0 rfl ?_
  refine v_iload_n (i := 1) hc 1 rfl dX9_ask_1 rfl ?_
  refine v_cB hc (m_V' (As := [.int p0]) (b := this) (rest := []) 1 hc hr (fun l D tys base => ct9_isPerson l D tys base h this p0) (fun x hx => ob9_isPerson hx) rfl s9_isPerson w_1653 rfl ⟨Nat.le_of_ble_eq_true rfl, Nat.le_of_ble_eq_true rfl⟩ ⟨Nat.le_of_ble_eq_true rfl, Nat.le_of_ble_eq_true rfl⟩ (Nat.le_of_ble_eq_true rfl) dX9_ask_2) fun x2 => ?_
  refine v_ifb_eq hc 25 dX9_ask_5 rfl ?_ ?_
  · refine v_iconst (x := (0 : Int32)) hc dX9_ask_25 zi_0 ?_
    exact v_iret (v := bI false) hc hq rfl (nar_b false) (Nat.le_of_ble_eq_true rfl) (Nat.le_of_ble_eq_true rfl) rfl dX9_ask_26
  · refine v_aload_n (i := 0) hc 0 rfl dX9_ask_8 rfl ?_
    refine v_getV hc kX9 0 (by decide) w_1131 rfl dX9_ask_9 (gR rfl fun x9 => ?_)
    refine v_sipush (x := (5030 : Int32)) hc dX9_ask_12 zs_5030 ?_
    refine v_iconst (x := (5 : Int32)) hc dX9_ask_15 zi_5 ?_
    refine v_iload_n (i := 1) hc 1 rfl dX9_ask_16 rfl ?_
    refine v_imul hc dX9_ask_17 ?_
    refine v_iadd hc dX9_ask_18 ?_
    refine v_iconst (x := (4 : Int32)) hc dX9_ask_19 zi_4 ?_
    refine v_iadd hc dX9_ask_20 ?_
    refine v_iald hc dX9_ask_21 fun x21 => ?_
    refine v_if_lt hc 27 dX9_ask_22 rfl ?_ ?_
    · refine v_aload_n (i := 0) hc 0 rfl dX9_ask_27 rfl ?_
      refine v_getV hc kX9 0 (by decide) w_1131 rfl dX9_ask_28 (gR rfl fun x28 => ?_)
      refine v_sipush (x := (5030 : Int32)) hc dX9_ask_31 zs_5030 ?_
      refine v_iconst (x := (5 : Int32)) hc dX9_ask_34 zi_5 ?_
      refine v_iload_n (i := 1) hc 1 rfl dX9_ask_35 rfl ?_
      refine v_imul hc dX9_ask_36 ?_
      refine v_iadd hc dX9_ask_37 ?_
      refine v_iconst (x := (4 : Int32)) hc dX9_ask_38 zi_4 ?_
      refine v_iadd hc dX9_ask_39 ?_
      refine v_aload_n (i := 0) hc 0 rfl dX9_ask_40 rfl ?_
      refine v_getV hc kX9 0 (by decide) w_1131 rfl dX9_ask_41 (gR rfl fun x41 => ?_)
      refine v_iconst (x := (0 : Int32)) hc dX9_ask_44 zi_0 ?_
      refine v_iald hc dX9_ask_45 fun x45 => ?_
      refine v_iast hc dX9_ask_46 fun h46 => ?_
      refine v_iconst (x := (1 : Int32)) hc dX9_ask_47 zi_1 ?_
      exact v_iret (v := bI true) hc hq rfl (nar_b true) (Nat.le_of_ble_eq_true rfl) (Nat.le_of_ble_eq_true rfl) rfl dX9_ask_48
    · refine v_iconst (x := (0 : Int32)) hc dX9_ask_25 zi_0 ?_
      exact v_iret (v := bI false) hc hq rfl (nar_b false) (Nat.le_of_ble_eq_true rfl) (Nat.le_of_ble_eq_true rfl) rfl dX9_ask_26
theorem s9_ask : YV yX9_ask RX9 cX9_ask 2 (some .boolean) 1 := ⟨w_1652, w_1650, w_1651, w_118, rfl, by decide +kernel, by decide +kernel, by decide +kernel⟩
def f9_knew_11 (h : AH) (v0 : Nat) (v2 : Int32) (v3 : Int32) : Nat → Int32 → Option (Bool)
  | 0, _ => none
  | n + 1, v4 => (fR 9 0 h v0).bind fun x14 => (aI 0 h x14 (5 : Int32)).bind fun x18 => (if x18 ≤ v4 then some false else (fR 9 0 h v0).bind fun x23 => (aI 0 h x23 ((2230 : Int32) + ((3 : Int32) * v4))).bind fun x34 => (if x34 = v2 then (fR 9 0 h v0).bind fun x40 => (aI 0 h x40 (((2230 : Int32) + ((3 : Int32) * v4)) + (1 : Int32))).bind fun x53 => (fR 9 0 h v0).bind fun x56 => (aI 0 h x56 v3).bind fun x60 => (fR 9 0 h v0).bind fun x63 => (aI 0 h x63 (v3 + (1 : Int32))).bind fun x69 => (f9_in h x53.toInt64 x60.toInt64 x69.toInt64).bind fun x71 => (if x71 = true then (f9_isWrong h v0 v4).bind fun x80 => (if x80 = true then some true else (some (v4 + (1 : Int32))).bind fun x88 => f9_knew_11 h v0 v2 v3 n x88) else (some (v4 + (1 : Int32))).bind fun x88 => f9_knew_11 h v0 v2 v3 n x88) else (some (v4 + (1 : Int32))).bind fun x88 => f9_knew_11 h v0 v2 v3 n x88))
set_option maxRecDepth 100000 in
theorem vl9_knew_11 {κ : Kx} (hc : CX κ RX9 cX9_knew) (hr : RX κ ({ frames := 2, cells := 0, slots := 0, locals := 44 } : Room)) (hq : QX κ (some .boolean) 0 0) (hL : 5 = κ.2.2.2.2.1)  (h : AH) (v0 : Nat) (v2 : Int32) (v3 : Int32) : ∀ n (v4 : Int32), V κ (rB h) 0 0 11 [(0, .ref v0), (2, .int v2), (3, .int v3), (4, .int v4)] [] h (f9_knew_11 h v0 v2 v3 n v4) := by
  have hn : ∀ i, i < 5 → i < κ.2.2.2.2.1 := fun i q => hL ▸ q
  intro n
  induction n with
  | zero => intros; exact v_none
  | succ n ih =>
    intro v4
    rw [f9_knew_11.eq_2]
    refine v_iload (i := 4) hc 3 rfl dX9_knew_11 ?_
    refine v_aload_n (i := 0) hc 0 rfl dX9_knew_13 rfl ?_
    refine v_getV hc kX9 0 (by decide) w_1131 rfl dX9_knew_14 (gR rfl fun x14 => ?_)
    refine v_iconst (x := (5 : Int32)) hc dX9_knew_17 zi_5 ?_
    refine v_iald hc dX9_knew_18 fun x18 => ?_
    refine v_icmp_ge hc 94 dX9_knew_19 rfl ?_ ?_
    · refine v_iconst (x := (0 : Int32)) hc dX9_knew_94 zi_0 ?_
      exact v_iret (v := bI false) hc hq rfl (nar_b false) (Nat.le_of_ble_eq_true rfl) (Nat.le_of_ble_eq_true rfl) rfl dX9_knew_95
    · refine v_aload_n (i := 0) hc 0 rfl dX9_knew_22 rfl ?_
      refine v_getV hc kX9 0 (by decide) w_1131 rfl dX9_knew_23 (gR rfl fun x23 => ?_)
      refine v_sipush (x := (2230 : Int32)) hc dX9_knew_26 zs_2230 ?_
      refine v_iconst (x := (3 : Int32)) hc dX9_knew_29 zi_3 ?_
      refine v_iload (i := 4) hc 3 rfl dX9_knew_30 ?_
      refine v_imul hc dX9_knew_32 ?_
      refine v_iadd hc dX9_knew_33 ?_
      refine v_iald hc dX9_knew_34 fun x34 => ?_
      refine v_iload_n (i := 2) hc 1 rfl dX9_knew_35 rfl ?_
      refine v_icmp_ne hc 88 dX9_knew_36 rfl ?_ ?_
      · refine v_iincN (i := 4) (y := (1 : Int32)) (L' := fun z => [(4, .int z), (0, .ref v0), (2, .int v2), (3, .int v3)]) hc 3 rfl dX9_knew_88 zi_1 (hn 4 (Nat.le_of_ble_eq_true rfl)) (fun _ => rfl) fun x88 => ?_
        refine v_goto hc 11 dX9_knew_91 rfl ?_
        refine v_sub (L' := [(0, .ref v0), (2, .int v2), (3, .int v3), (4, .int x88)]) [1, 2, 3, 0] rfl ?_
        exact ih x88
      · refine v_aload_n (i := 0) hc 0 rfl dX9_knew_39 rfl ?_
        refine v_getV hc kX9 0 (by decide) w_1131 rfl dX9_knew_40 (gR rfl fun x40 => ?_)
        refine v_sipush (x := (2230 : Int32)) hc dX9_knew_43 zs_2230 ?_
        refine v_iconst (x := (3 : Int32)) hc dX9_knew_46 zi_3 ?_
        refine v_iload (i := 4) hc 3 rfl dX9_knew_47 ?_
        refine v_imul hc dX9_knew_49 ?_
        refine v_iadd hc dX9_knew_50 ?_
        refine v_iconst (x := (1 : Int32)) hc dX9_knew_51 zi_1 ?_
        refine v_iadd hc dX9_knew_52 ?_
        refine v_iald hc dX9_knew_53 fun x53 => ?_
        refine v_i2l hc dX9_knew_54 ?_
        refine v_aload_n (i := 0) hc 0 rfl dX9_knew_55 rfl ?_
        refine v_getV hc kX9 0 (by decide) w_1131 rfl dX9_knew_56 (gR rfl fun x56 => ?_)
        refine v_iload_n (i := 3) hc 2 rfl dX9_knew_59 rfl ?_
        refine v_iald hc dX9_knew_60 fun x60 => ?_
        refine v_i2l hc dX9_knew_61 ?_
        refine v_aload_n (i := 0) hc 0 rfl dX9_knew_62 rfl ?_
        refine v_getV hc kX9 0 (by decide) w_1131 rfl dX9_knew_63 (gR rfl fun x63 => ?_)
        refine v_iload_n (i := 3) hc 2 rfl dX9_knew_66 rfl ?_
        refine v_iconst (x := (1 : Int32)) hc dX9_knew_67 zi_1 ?_
        refine v_iadd hc dX9_knew_68 ?_
        refine v_iald hc dX9_knew_69 fun x69 => ?_
        refine v_i2l hc dX9_knew_70 ?_
        refine v_cB hc (m_S' (As := [.long x53.toInt64, .long x60.toInt64, .long x69.toInt64]) (rest := []) 3 hc hr (fun l D tys base => ct9_in l D tys base h x53.toInt64 x60.toInt64 x69.toInt64) s9_in w_1246 rfl ⟨Nat.le_of_ble_eq_true rfl, Nat.le_of_ble_eq_true rfl⟩ ⟨Nat.le_of_ble_eq_true rfl, Nat.le_of_ble_eq_true rfl⟩ (Nat.le_of_ble_eq_true rfl) dX9_knew_71) fun x71 => ?_
        refine v_ifb_eq hc 88 dX9_knew_74 rfl ?_ ?_
        · refine v_iincN (i := 4) (y := (1 : Int32)) (L' := fun z => [(4, .int z), (0, .ref v0), (2, .int v2), (3, .int v3)]) hc 3 rfl dX9_knew_88 zi_1 (hn 4 (Nat.le_of_ble_eq_true rfl)) (fun _ => rfl) fun x88 => ?_
          refine v_goto hc 11 dX9_knew_91 rfl ?_
          refine v_sub (L' := [(0, .ref v0), (2, .int v2), (3, .int v3), (4, .int x88)]) [1, 2, 3, 0] rfl ?_
          exact ih x88
        · refine v_aload_n (i := 0) hc 0 rfl dX9_knew_77 rfl ?_
          refine v_iload (i := 4) hc 3 rfl dX9_knew_78 ?_
          refine v_cB hc (m_V' (As := [.int v4]) (b := v0) (rest := []) 1 hc hr (fun l D tys base => ct9_isWrong l D tys base h v0 v4) (fun x hx => ob9_isWrong hx) rfl s9_isWrong w_1307 rfl ⟨Nat.le_of_ble_eq_true rfl, Nat.le_of_ble_eq_true rfl⟩ ⟨Nat.le_of_ble_eq_true rfl, Nat.le_of_ble_eq_true rfl⟩ (Nat.le_of_ble_eq_true rfl) dX9_knew_80) fun x80 => ?_
          refine v_ifb_eq hc 88 dX9_knew_83 rfl ?_ ?_
          · refine v_iincN (i := 4) (y := (1 : Int32)) (L' := fun z => [(4, .int z), (0, .ref v0), (2, .int v2), (3, .int v3)]) hc 3 rfl dX9_knew_88 zi_1 (hn 4 (Nat.le_of_ble_eq_true rfl)) (fun _ => rfl) fun x88 => ?_
            refine v_goto hc 11 dX9_knew_91 rfl ?_
            refine v_sub (L' := [(0, .ref v0), (2, .int v2), (3, .int v3), (4, .int x88)]) [1, 2, 3, 0] rfl ?_
            exact ih x88
          · refine v_iconst (x := (1 : Int32)) hc dX9_knew_86 zi_1 ?_
            exact v_iret (v := bI true) hc hq rfl (nar_b true) (Nat.le_of_ble_eq_true rfl) (Nat.le_of_ble_eq_true rfl) rfl dX9_knew_87
def f9_knew (h : AH) (this : Nat) (p0 : Int32) (p1 : Int32) : Option (Bool) := (hObj 9 h this).bind fun _ => (some ((5030 : Int32) + ((5 : Int32) * p0))).bind fun x7 => f9_knew_11 h this p1 x7 FU (0 : Int32)
theorem ob9_knew {h : AH} {this : Nat} {p0 : Int32} {p1 : Int32} {x : Bool} (e : f9_knew h this p0 p1 = some x) : ∃ fs, hObj 9 h this = some fs := by
  unfold f9_knew at e
  obtain ⟨fs, h1, -⟩ := bd e
  exact ⟨fs, h1⟩
set_option maxRecDepth 100000 in
theorem ct9_knew (l : Launch) (D : va_G) (tys : Tys) (base : Nat) (h : AH) (this : Nat) (p0 : Int32) (p1 : Int32) : Ct l D tys base yX9_knew cX9_knew 5 (some .boolean) 2 44 0 0 [.ref this, .int p0, .int p1] h (rB h) (f9_knew h this p0 p1) := by
  refine Ct.intro (own := RX9) (L := [(0, .ref this), (1, .int p0), (2, .int p1)]) rfl (by decide) rfl (Nat.le_of_ble_eq_true rfl) fun κ hc hr hq hi hL => ?_
  have hn : ∀ i, i < 5 → i < κ.2.2.2.2.1 := fun i q => hL ▸ q
  unfold f9_knew
  refine v_obj ?_
  refine v_sipush (x := (5030 : Int32)) hc dX9_knew_0 zs_5030 ?_
  refine v_iconst (x := (5 : Int32)) hc dX9_knew_3 zi_5 ?_
  refine v_iload_n (i := 1) hc 1 rfl dX9_knew_4 rfl ?_
  refine v_imul hc dX9_knew_5 ?_
  refine v_iadd hc dX9_knew_6 ?_
  refine v_nmI fun x7 => ?_
  refine v_istore_n (i := 3) (L' := [(3, .int x7), (0, .ref this), (1, .int p0), (2, .int p1)]) hc dX9_knew_7 rfl (hn 3 (Nat.le_of_ble_eq_true rfl)) rfl ?_
  refine v_iconst (x := (0 : Int32)) hc dX9_knew_8 zi_0 ?_
  refine v_istore (i := 4) (L' := [(4, .int (0 : Int32)), (3, .int x7), (0, .ref this), (1, .int p0), (2, .int p1)]) hc dX9_knew_9 (hn 4 (Nat.le_of_ble_eq_true rfl)) rfl ?_
  refine v_sub (L' := [(0, .ref this), (2, .int p1), (3, .int x7), (4, .int (0 : Int32))]) [2, 4, 1, 0] rfl ?_
  exact vl9_knew_11 hc hr hq hL h this p1 x7 FU (0 : Int32)
theorem s9_knew : YV yX9_knew RX9 cX9_knew 5 (some .boolean) 2 := ⟨w_1664, w_1663, w_106, w_118, rfl, by decide +kernel, by decide +kernel, by decide +kernel⟩
def f9_unasked_63 (k22 : Int32 → Int32 → Option (Int32)) (h : AH) (v0 : Nat) (v1 : Int32) (v2 : Int32) (v4 : Int32) (s0 : Int32) : Option (Int32) := (f9_knew h v0 v4 v1).bind fun x67 => (if x67 = true then (some (s0 ||| ((1 : Int32) <<< (v4 &&& 31)))).bind fun x82 => (some (v4 + (1 : Int32))).bind fun x83 => k22 x82 x83 else (some (s0 ||| (0 : Int32))).bind fun x82 => (some (v4 + (1 : Int32))).bind fun x83 => k22 x82 x83)
set_option maxRecDepth 100000 in
theorem vl9_unasked_63 {κ : Kx} (hc : CX κ RX9 cX9_unasked) (hr : RX κ ({ frames := 3, cells := 0, slots := 0, locals := 68 } : Room)) (hq : QX κ (some .int) 0 0) (hL : 6 = κ.2.2.2.2.1) (k22 : Int32 → Int32 → Option (Int32)) (h : AH) (v0 : Nat) (v1 : Int32) (v2 : Int32) (hk22 : ∀ (v3 : Int32) (v4 : Int32), V κ (rI h) 0 0 22 [(0, .ref v0), (1, .int v1), (2, .int v2), (3, .int v3), (4, .int v4)] [] h (k22 v3 v4)) (v4 : Int32) (s0 : Int32) : V κ (rI h) 0 0 63 [(0, .ref v0), (1, .int v1), (2, .int v2), (4, .int v4)] [.int s0] h (f9_unasked_63 k22 h v0 v1 v2 v4 s0) := by
  have hn : ∀ i, i < 6 → i < κ.2.2.2.2.1 := fun i q => hL ▸ q
  unfold f9_unasked_63
  refine v_aload_n (i := 0) hc 0 rfl dX9_unasked_63 rfl ?_
  refine v_iload (i := 4) hc 3 rfl dX9_unasked_64 ?_
  refine v_iload_n (i := 1) hc 1 rfl dX9_unasked_66 rfl ?_
  refine v_cB hc (m_V' (As := [.int v4, .int v1]) (b := v0) (rest := [.int s0]) 2 hc hr (fun l D tys base => ct9_knew l D tys base h v0 v4 v1) (fun x hx => ob9_knew hx) rfl s9_knew w_1661 rfl ⟨Nat.le_of_ble_eq_true rfl, Nat.le_of_ble_eq_true rfl⟩ ⟨Nat.le_of_ble_eq_true rfl, Nat.le_of_ble_eq_true rfl⟩ (Nat.le_of_ble_eq_true rfl) dX9_unasked_67) fun x67 => ?_
  refine v_ifb_eq hc 80 dX9_unasked_70 rfl ?_ ?_
  · refine v_iconst (x := (0 : Int32)) hc dX9_unasked_80 zi_0 ?_
    refine v_ior hc dX9_unasked_81 ?_
    refine v_nmI fun x82 => ?_
    refine v_istore_n (i := 3) (L' := [(3, .int x82), (0, .ref v0), (1, .int v1), (2, .int v2), (4, .int v4)]) hc dX9_unasked_82 rfl (hn 3 (Nat.le_of_ble_eq_true rfl)) rfl ?_
    refine v_iincN (i := 4) (y := (1 : Int32)) (L' := fun z => [(4, .int z), (3, .int x82), (0, .ref v0), (1, .int v1), (2, .int v2)]) hc 4 rfl dX9_unasked_83 zi_1 (hn 4 (Nat.le_of_ble_eq_true rfl)) (fun _ => rfl) fun x83 => ?_
    refine v_goto hc 22 dX9_unasked_86 rfl ?_
    refine v_sub (L' := [(0, .ref v0), (1, .int v1), (2, .int v2), (3, .int x82), (4, .int x83)]) [2, 3, 4, 1, 0] rfl ?_
    exact hk22 x82 x83
  · refine v_iconst (x := (1 : Int32)) hc dX9_unasked_73 zi_1 ?_
    refine v_iload (i := 4) hc 3 rfl dX9_unasked_74 ?_
    refine v_ishl hc dX9_unasked_76 ?_
    refine v_goto hc 81 dX9_unasked_77 rfl ?_
    refine v_ior hc dX9_unasked_81 ?_
    refine v_nmI fun x82 => ?_
    refine v_istore_n (i := 3) (L' := [(3, .int x82), (0, .ref v0), (1, .int v1), (2, .int v2), (4, .int v4)]) hc dX9_unasked_82 rfl (hn 3 (Nat.le_of_ble_eq_true rfl)) rfl ?_
    refine v_iincN (i := 4) (y := (1 : Int32)) (L' := fun z => [(4, .int z), (3, .int x82), (0, .ref v0), (1, .int v1), (2, .int v2)]) hc 4 rfl dX9_unasked_83 zi_1 (hn 4 (Nat.le_of_ble_eq_true rfl)) (fun _ => rfl) fun x83 => ?_
    refine v_goto hc 22 dX9_unasked_86 rfl ?_
    refine v_sub (L' := [(0, .ref v0), (1, .int v1), (2, .int v2), (3, .int x82), (4, .int x83)]) [2, 3, 4, 1, 0] rfl ?_
    exact hk22 x82 x83
def f9_unasked_22 (h : AH) (v0 : Nat) (v1 : Int32) (v2 : Int32) : Nat → Int32 → Int32 → Option (Int32)
  | 0, _, _ => none
  | n + 1, v3, v4 => (fR 9 0 h v0).bind fun x25 => (aI 0 h x25 (8 : Int32)).bind fun x30 => (if x30 ≤ v4 then some v3 else (fR 9 0 h v0).bind fun x35 => (aI 0 h x35 (((5030 : Int32) + ((5 : Int32) * v4)) + (4 : Int32))).bind fun x48 => (if x48 < 0 then f9_unasked_63 (fun v3 v4 => f9_unasked_22 h v0 v1 v2 n v3 v4) h v0 v1 v2 v4 v3 else (if x48 ≤ v2 then (some (v3 ||| (0 : Int32))).bind fun x82 => (some (v4 + (1 : Int32))).bind fun x83 => f9_unasked_22 h v0 v1 v2 n x82 x83 else f9_unasked_63 (fun v3 v4 => f9_unasked_22 h v0 v1 v2 n v3 v4) h v0 v1 v2 v4 v3)))
set_option maxRecDepth 100000 in
theorem vl9_unasked_22 {κ : Kx} (hc : CX κ RX9 cX9_unasked) (hr : RX κ ({ frames := 3, cells := 0, slots := 0, locals := 68 } : Room)) (hq : QX κ (some .int) 0 0) (hL : 6 = κ.2.2.2.2.1)  (h : AH) (v0 : Nat) (v1 : Int32) (v2 : Int32) : ∀ n (v3 : Int32) (v4 : Int32), V κ (rI h) 0 0 22 [(0, .ref v0), (1, .int v1), (2, .int v2), (3, .int v3), (4, .int v4)] [] h (f9_unasked_22 h v0 v1 v2 n v3 v4) := by
  have hn : ∀ i, i < 6 → i < κ.2.2.2.2.1 := fun i q => hL ▸ q
  intro n
  induction n with
  | zero => intros; exact v_none
  | succ n ih =>
    intro v3 v4
    rw [f9_unasked_22.eq_2]
    refine v_iload (i := 4) hc 4 rfl dX9_unasked_22 ?_
    refine v_aload_n (i := 0) hc 0 rfl dX9_unasked_24 rfl ?_
    refine v_getV hc kX9 0 (by decide) w_1131 rfl dX9_unasked_25 (gR rfl fun x25 => ?_)
    refine v_bipush (x := (8 : Int32)) hc dX9_unasked_28 zb_8 ?_
    refine v_iald hc dX9_unasked_30 fun x30 => ?_
    refine v_icmp_ge hc 89 dX9_unasked_31 rfl ?_ ?_
    · refine v_iload_n (i := 3) hc 3 rfl dX9_unasked_89 rfl ?_
      exact v_iret hc hq rfl rfl (Nat.le_of_ble_eq_true rfl) (Nat.le_of_ble_eq_true rfl) rfl dX9_unasked_90
    · refine v_aload_n (i := 0) hc 0 rfl dX9_unasked_34 rfl ?_
      refine v_getV hc kX9 0 (by decide) w_1131 rfl dX9_unasked_35 (gR rfl fun x35 => ?_)
      refine v_sipush (x := (5030 : Int32)) hc dX9_unasked_38 zs_5030 ?_
      refine v_iconst (x := (5 : Int32)) hc dX9_unasked_41 zi_5 ?_
      refine v_iload (i := 4) hc 4 rfl dX9_unasked_42 ?_
      refine v_imul hc dX9_unasked_44 ?_
      refine v_iadd hc dX9_unasked_45 ?_
      refine v_iconst (x := (4 : Int32)) hc dX9_unasked_46 zi_4 ?_
      refine v_iadd hc dX9_unasked_47 ?_
      refine v_iald hc dX9_unasked_48 fun x48 => ?_
      refine v_istore (i := 5) (L' := [(5, .int x48), (0, .ref v0), (1, .int v1), (2, .int v2), (3, .int v3), (4, .int v4)]) hc dX9_unasked_49 (hn 5 (Nat.le_of_ble_eq_true rfl)) rfl ?_
      refine v_iload_n (i := 3) hc 4 rfl dX9_unasked_51 rfl ?_
      refine v_iload (i := 5) hc 0 rfl dX9_unasked_52 ?_
      refine v_if_lt hc 63 dX9_unasked_54 rfl ?_ ?_
      · refine v_sub (L' := [(0, .ref v0), (1, .int v1), (2, .int v2), (4, .int v4)]) [1, 2, 3, 5] rfl ?_
        exact vl9_unasked_63 hc hr hq hL (fun v3 v4 => f9_unasked_22 h v0 v1 v2 n v3 v4) h v0 v1 v2 ih v4 v3
      · refine v_iload (i := 5) hc 0 rfl dX9_unasked_57 ?_
        refine v_iload_n (i := 2) hc 3 rfl dX9_unasked_59 rfl ?_
        refine v_icmp_le hc 80 dX9_unasked_60 rfl ?_ ?_
        · refine v_iconst (x := (0 : Int32)) hc dX9_unasked_80 zi_0 ?_
          refine v_ior hc dX9_unasked_81 ?_
          refine v_nmI fun x82 => ?_
          refine v_istore_n (i := 3) (L' := [(3, .int x82), (5, .int x48), (0, .ref v0), (1, .int v1), (2, .int v2), (4, .int v4)]) hc dX9_unasked_82 rfl (hn 3 (Nat.le_of_ble_eq_true rfl)) rfl ?_
          refine v_iincN (i := 4) (y := (1 : Int32)) (L' := fun z => [(4, .int z), (3, .int x82), (5, .int x48), (0, .ref v0), (1, .int v1), (2, .int v2)]) hc 5 rfl dX9_unasked_83 zi_1 (hn 4 (Nat.le_of_ble_eq_true rfl)) (fun _ => rfl) fun x83 => ?_
          refine v_goto hc 22 dX9_unasked_86 rfl ?_
          refine v_sub (L' := [(0, .ref v0), (1, .int v1), (2, .int v2), (3, .int x82), (4, .int x83)]) [3, 4, 5, 1, 0] rfl ?_
          exact ih x82 x83
        · refine v_sub (L' := [(0, .ref v0), (1, .int v1), (2, .int v2), (4, .int v4)]) [1, 2, 3, 5] rfl ?_
          exact vl9_unasked_63 hc hr hq hL (fun v3 v4 => f9_unasked_22 h v0 v1 v2 n v3 v4) h v0 v1 v2 ih v4 v3
def f9_unasked (h : AH) (this : Nat) (p0 : Int32) (p1 : Int32) : Option (Int32) := (hObj 9 h this).bind fun _ => (f9_isPiece h this p0).bind fun x2 => (if x2 = true then (f9_isWeek h p1).bind fun x9 => (if x9 = true then f9_unasked_22 h this p0 p1 FU (0 : Int32) (0 : Int32) else some (-1 : Int32)) else some (-1 : Int32))
theorem ob9_unasked {h : AH} {this : Nat} {p0 : Int32} {p1 : Int32} {x : Int32} (e : f9_unasked h this p0 p1 = some x) : ∃ fs, hObj 9 h this = some fs := by
  unfold f9_unasked at e
  obtain ⟨fs, h1, -⟩ := bd e
  exact ⟨fs, h1⟩
set_option maxRecDepth 100000 in
theorem ct9_unasked (l : Launch) (D : va_G) (tys : Tys) (base : Nat) (h : AH) (this : Nat) (p0 : Int32) (p1 : Int32) : Ct l D tys base yX9_unasked cX9_unasked 6 (some .int) 3 68 0 0 [.ref this, .int p0, .int p1] h (rI h) (f9_unasked h this p0 p1) := by
  refine Ct.intro (own := RX9) (L := [(0, .ref this), (1, .int p0), (2, .int p1)]) rfl (by decide) rfl (Nat.le_of_ble_eq_true rfl) fun κ hc hr hq hi hL => ?_
  have hn : ∀ i, i < 6 → i < κ.2.2.2.2.1 := fun i q => hL ▸ q
  unfold f9_unasked
  refine v_obj ?_
  refine v_aload_n (i := 0) hc 0 rfl dX9_unasked_0 rfl ?_
  refine v_iload_n (i := 1) hc 1 rfl dX9_unasked_1 rfl ?_
  refine v_cB hc (m_V' (As := [.int p0]) (b := this) (rest := []) 1 hc hr (fun l D tys base => ct9_isPiece l D tys base h this p0) (fun x hx => ob9_isPiece hx) rfl s9_isPiece w_1286 rfl ⟨Nat.le_of_ble_eq_true rfl, Nat.le_of_ble_eq_true rfl⟩ ⟨Nat.le_of_ble_eq_true rfl, Nat.le_of_ble_eq_true rfl⟩ (Nat.le_of_ble_eq_true rfl) dX9_unasked_2) fun x2 => ?_
  refine v_ifb_eq hc 15 dX9_unasked_5 rfl ?_ ?_
  · refine v_iconst (x := (-1 : Int32)) hc dX9_unasked_15 zi_m1 ?_
    exact v_iret hc hq rfl rfl (Nat.le_of_ble_eq_true rfl) (Nat.le_of_ble_eq_true rfl) rfl dX9_unasked_16
  · refine v_iload_n (i := 2) hc 2 rfl dX9_unasked_8 rfl ?_
    refine v_cB hc (m_S' (As := [.int p1]) (rest := []) 1 hc hr (fun l D tys base => ct9_isWeek l D tys base h p1) s9_isWeek w_1563 rfl ⟨Nat.le_of_ble_eq_true rfl, Nat.le_of_ble_eq_true rfl⟩ ⟨Nat.le_of_ble_eq_true rfl, Nat.le_of_ble_eq_true rfl⟩ (Nat.le_of_ble_eq_true rfl) dX9_unasked_9) fun x9 => ?_
    refine v_ifb_ne hc 17 dX9_unasked_12 rfl ?_ ?_
    · refine v_iconst (x := (0 : Int32)) hc dX9_unasked_17 zi_0 ?_
      refine v_istore_n (i := 3) (L' := [(3, .int (0 : Int32)), (0, .ref this), (1, .int p0), (2, .int p1)]) hc dX9_unasked_18 rfl (hn 3 (Nat.le_of_ble_eq_true rfl)) rfl ?_
      refine v_iconst (x := (0 : Int32)) hc dX9_unasked_19 zi_0 ?_
      refine v_istore (i := 4) (L' := [(4, .int (0 : Int32)), (3, .int (0 : Int32)), (0, .ref this), (1, .int p0), (2, .int p1)]) hc dX9_unasked_20 (hn 4 (Nat.le_of_ble_eq_true rfl)) rfl ?_
      refine v_sub (L' := [(0, .ref this), (1, .int p0), (2, .int p1), (3, .int (0 : Int32)), (4, .int (0 : Int32))]) [2, 3, 4, 1, 0] rfl ?_
      exact vl9_unasked_22 hc hr hq hL h this p0 p1 FU (0 : Int32) (0 : Int32)
    · refine v_iconst (x := (-1 : Int32)) hc dX9_unasked_15 zi_m1 ?_
      exact v_iret hc hq rfl rfl (Nat.le_of_ble_eq_true rfl) (Nat.le_of_ble_eq_true rfl) rfl dX9_unasked_16
theorem s9_unasked : YV yX9_unasked RX9 cX9_unasked 6 (some .int) 2 := ⟨w_1660, w_1658, w_1659, w_118, rfl, by decide +kernel, by decide +kernel, by decide +kernel⟩
def f9_gain_22 (h : AH) (v0 : Nat) (v1 : Int32) (v2 : Int32) : Nat → Int32 → Int32 → Option (Int32)
  | 0, _, _ => none
  | n + 1, v3, v4 => (fR 9 0 h v0).bind fun x25 => (aI 0 h x25 (4 : Int32)).bind fun x29 => (if x29 ≤ v4 then (fR 9 0 h v0).bind fun x91 => (aI 0 h x91 (((5030 : Int32) + ((5 : Int32) * v1)) + (2 : Int32))).bind fun x103 => some (v3 * x103) else (f9_pieceCell h v0 v4 (0 : Int32)).bind fun x38 => (if x38 = 0 then (f9_pieceCell h v0 v4 (8 : Int32)).bind fun x49 => (fR 9 0 h v0).bind fun x54 => (aI 0 h x54 (((5030 : Int32) + ((5 : Int32) * v1)) + (3 : Int32))).bind fun x66 => (f9_in h x49.toInt64 x66.toInt64 v2.toInt64).bind fun x70 => (if x70 = true then (some (v3 + (1 : Int32))).bind fun x82 => (some (v4 + (1 : Int32))).bind fun x83 => f9_gain_22 h v0 v1 v2 n x82 x83 else (some (v3 + (0 : Int32))).bind fun x82 => (some (v4 + (1 : Int32))).bind fun x83 => f9_gain_22 h v0 v1 v2 n x82 x83) else (some (v3 + (0 : Int32))).bind fun x82 => (some (v4 + (1 : Int32))).bind fun x83 => f9_gain_22 h v0 v1 v2 n x82 x83))
set_option maxRecDepth 100000 in
theorem vl9_gain_22 {κ : Kx} (hc : CX κ RX9 cX9_gain) (hr : RX κ ({ frames := 1, cells := 0, slots := 0, locals := 25 } : Room)) (hq : QX κ (some .int) 0 0) (hL : 5 = κ.2.2.2.2.1)  (h : AH) (v0 : Nat) (v1 : Int32) (v2 : Int32) : ∀ n (v3 : Int32) (v4 : Int32), V κ (rI h) 0 0 22 [(0, .ref v0), (1, .int v1), (2, .int v2), (3, .int v3), (4, .int v4)] [] h (f9_gain_22 h v0 v1 v2 n v3 v4) := by
  have hn : ∀ i, i < 5 → i < κ.2.2.2.2.1 := fun i q => hL ▸ q
  intro n
  induction n with
  | zero => intros; exact v_none
  | succ n ih =>
    intro v3 v4
    rw [f9_gain_22.eq_2]
    refine v_iload (i := 4) hc 4 rfl dX9_gain_22 ?_
    refine v_aload_n (i := 0) hc 0 rfl dX9_gain_24 rfl ?_
    refine v_getV hc kX9 0 (by decide) w_1131 rfl dX9_gain_25 (gR rfl fun x25 => ?_)
    refine v_iconst (x := (4 : Int32)) hc dX9_gain_28 zi_4 ?_
    refine v_iald hc dX9_gain_29 fun x29 => ?_
    refine v_icmp_ge hc 89 dX9_gain_30 rfl ?_ ?_
    · refine v_iload_n (i := 3) hc 3 rfl dX9_gain_89 rfl ?_
      refine v_aload_n (i := 0) hc 0 rfl dX9_gain_90 rfl ?_
      refine v_getV hc kX9 0 (by decide) w_1131 rfl dX9_gain_91 (gR rfl fun x91 => ?_)
      refine v_sipush (x := (5030 : Int32)) hc dX9_gain_94 zs_5030 ?_
      refine v_iconst (x := (5 : Int32)) hc dX9_gain_97 zi_5 ?_
      refine v_iload_n (i := 1) hc 1 rfl dX9_gain_98 rfl ?_
      refine v_imul hc dX9_gain_99 ?_
      refine v_iadd hc dX9_gain_100 ?_
      refine v_iconst (x := (2 : Int32)) hc dX9_gain_101 zi_2 ?_
      refine v_iadd hc dX9_gain_102 ?_
      refine v_iald hc dX9_gain_103 fun x103 => ?_
      refine v_imul hc dX9_gain_104 ?_
      exact v_iret hc hq rfl rfl (Nat.le_of_ble_eq_true rfl) (Nat.le_of_ble_eq_true rfl) rfl dX9_gain_105
    · refine v_iload_n (i := 3) hc 3 rfl dX9_gain_33 rfl ?_
      refine v_aload_n (i := 0) hc 0 rfl dX9_gain_34 rfl ?_
      refine v_iload (i := 4) hc 4 rfl dX9_gain_35 ?_
      refine v_iconst (x := (0 : Int32)) hc dX9_gain_37 zi_0 ?_
      refine v_cI hc (m_V' (As := [.int v4, .int (0 : Int32)]) (b := v0) (rest := [.int v3]) 2 hc hr (fun l D tys base => ct9_pieceCell l D tys base h v0 v4 (0 : Int32)) (fun x hx => ob9_pieceCell hx) rfl s9_pieceCell w_1327 rfl ⟨Nat.le_of_ble_eq_true rfl, Nat.le_of_ble_eq_true rfl⟩ ⟨Nat.le_of_ble_eq_true rfl, Nat.le_of_ble_eq_true rfl⟩ (Nat.le_of_ble_eq_true rfl) dX9_gain_38) fun x38 => ?_
      refine v_if_ne hc 80 dX9_gain_41 rfl ?_ ?_
      · refine v_iconst (x := (0 : Int32)) hc dX9_gain_80 zi_0 ?_
        refine v_iadd hc dX9_gain_81 ?_
        refine v_nmI fun x82 => ?_
        refine v_istore_n (i := 3) (L' := [(3, .int x82), (0, .ref v0), (1, .int v1), (2, .int v2), (4, .int v4)]) hc dX9_gain_82 rfl (hn 3 (Nat.le_of_ble_eq_true rfl)) rfl ?_
        refine v_iincN (i := 4) (y := (1 : Int32)) (L' := fun z => [(4, .int z), (3, .int x82), (0, .ref v0), (1, .int v1), (2, .int v2)]) hc 4 rfl dX9_gain_83 zi_1 (hn 4 (Nat.le_of_ble_eq_true rfl)) (fun _ => rfl) fun x83 => ?_
        refine v_goto hc 22 dX9_gain_86 rfl ?_
        refine v_sub (L' := [(0, .ref v0), (1, .int v1), (2, .int v2), (3, .int x82), (4, .int x83)]) [2, 3, 4, 1, 0] rfl ?_
        exact ih x82 x83
      · refine v_aload_n (i := 0) hc 0 rfl dX9_gain_44 rfl ?_
        refine v_iload (i := 4) hc 4 rfl dX9_gain_45 ?_
        refine v_bipush (x := (8 : Int32)) hc dX9_gain_47 zb_8 ?_
        refine v_cI hc (m_V' (As := [.int v4, .int (8 : Int32)]) (b := v0) (rest := [.int v3]) 2 hc hr (fun l D tys base => ct9_pieceCell l D tys base h v0 v4 (8 : Int32)) (fun x hx => ob9_pieceCell hx) rfl s9_pieceCell w_1327 rfl ⟨Nat.le_of_ble_eq_true rfl, Nat.le_of_ble_eq_true rfl⟩ ⟨Nat.le_of_ble_eq_true rfl, Nat.le_of_ble_eq_true rfl⟩ (Nat.le_of_ble_eq_true rfl) dX9_gain_49) fun x49 => ?_
        refine v_i2l hc dX9_gain_52 ?_
        refine v_aload_n (i := 0) hc 0 rfl dX9_gain_53 rfl ?_
        refine v_getV hc kX9 0 (by decide) w_1131 rfl dX9_gain_54 (gR rfl fun x54 => ?_)
        refine v_sipush (x := (5030 : Int32)) hc dX9_gain_57 zs_5030 ?_
        refine v_iconst (x := (5 : Int32)) hc dX9_gain_60 zi_5 ?_
        refine v_iload_n (i := 1) hc 1 rfl dX9_gain_61 rfl ?_
        refine v_imul hc dX9_gain_62 ?_
        refine v_iadd hc dX9_gain_63 ?_
        refine v_iconst (x := (3 : Int32)) hc dX9_gain_64 zi_3 ?_
        refine v_iadd hc dX9_gain_65 ?_
        refine v_iald hc dX9_gain_66 fun x66 => ?_
        refine v_i2l hc dX9_gain_67 ?_
        refine v_iload_n (i := 2) hc 2 rfl dX9_gain_68 rfl ?_
        refine v_i2l hc dX9_gain_69 ?_
        refine v_cB hc (m_S' (As := [.long x49.toInt64, .long x66.toInt64, .long v2.toInt64]) (rest := [.int v3]) 3 hc hr (fun l D tys base => ct9_in l D tys base h x49.toInt64 x66.toInt64 v2.toInt64) s9_in w_1246 rfl ⟨Nat.le_of_ble_eq_true rfl, Nat.le_of_ble_eq_true rfl⟩ ⟨Nat.le_of_ble_eq_true rfl, Nat.le_of_ble_eq_true rfl⟩ (Nat.le_of_ble_eq_true rfl) dX9_gain_70) fun x70 => ?_
        refine v_ifb_eq hc 80 dX9_gain_73 rfl ?_ ?_
        · refine v_iconst (x := (0 : Int32)) hc dX9_gain_80 zi_0 ?_
          refine v_iadd hc dX9_gain_81 ?_
          refine v_nmI fun x82 => ?_
          refine v_istore_n (i := 3) (L' := [(3, .int x82), (0, .ref v0), (1, .int v1), (2, .int v2), (4, .int v4)]) hc dX9_gain_82 rfl (hn 3 (Nat.le_of_ble_eq_true rfl)) rfl ?_
          refine v_iincN (i := 4) (y := (1 : Int32)) (L' := fun z => [(4, .int z), (3, .int x82), (0, .ref v0), (1, .int v1), (2, .int v2)]) hc 4 rfl dX9_gain_83 zi_1 (hn 4 (Nat.le_of_ble_eq_true rfl)) (fun _ => rfl) fun x83 => ?_
          refine v_goto hc 22 dX9_gain_86 rfl ?_
          refine v_sub (L' := [(0, .ref v0), (1, .int v1), (2, .int v2), (3, .int x82), (4, .int x83)]) [2, 3, 4, 1, 0] rfl ?_
          exact ih x82 x83
        · refine v_iconst (x := (1 : Int32)) hc dX9_gain_76 zi_1 ?_
          refine v_goto hc 81 dX9_gain_77 rfl ?_
          refine v_iadd hc dX9_gain_81 ?_
          refine v_nmI fun x82 => ?_
          refine v_istore_n (i := 3) (L' := [(3, .int x82), (0, .ref v0), (1, .int v1), (2, .int v2), (4, .int v4)]) hc dX9_gain_82 rfl (hn 3 (Nat.le_of_ble_eq_true rfl)) rfl ?_
          refine v_iincN (i := 4) (y := (1 : Int32)) (L' := fun z => [(4, .int z), (3, .int x82), (0, .ref v0), (1, .int v1), (2, .int v2)]) hc 4 rfl dX9_gain_83 zi_1 (hn 4 (Nat.le_of_ble_eq_true rfl)) (fun _ => rfl) fun x83 => ?_
          refine v_goto hc 22 dX9_gain_86 rfl ?_
          refine v_sub (L' := [(0, .ref v0), (1, .int v1), (2, .int v2), (3, .int x82), (4, .int x83)]) [2, 3, 4, 1, 0] rfl ?_
          exact ih x82 x83
def f9_gain (h : AH) (this : Nat) (p0 : Int32) (p1 : Int32) : Option (Int32) := (hObj 9 h this).bind fun _ => (f9_isPerson h this p0).bind fun x2 => (if x2 = true then (f9_isWeek h p1).bind fun x9 => (if x9 = true then f9_gain_22 h this p0 p1 FU (0 : Int32) (0 : Int32) else some (-1 : Int32)) else some (-1 : Int32))
theorem ob9_gain {h : AH} {this : Nat} {p0 : Int32} {p1 : Int32} {x : Int32} (e : f9_gain h this p0 p1 = some x) : ∃ fs, hObj 9 h this = some fs := by
  unfold f9_gain at e
  obtain ⟨fs, h1, -⟩ := bd e
  exact ⟨fs, h1⟩
set_option maxRecDepth 100000 in
theorem ct9_gain (l : Launch) (D : va_G) (tys : Tys) (base : Nat) (h : AH) (this : Nat) (p0 : Int32) (p1 : Int32) : Ct l D tys base yX9_gain cX9_gain 5 (some .int) 1 25 0 0 [.ref this, .int p0, .int p1] h (rI h) (f9_gain h this p0 p1) := by
  refine Ct.intro (own := RX9) (L := [(0, .ref this), (1, .int p0), (2, .int p1)]) rfl (by decide) rfl (Nat.le_of_ble_eq_true rfl) fun κ hc hr hq hi hL => ?_
  have hn : ∀ i, i < 5 → i < κ.2.2.2.2.1 := fun i q => hL ▸ q
  unfold f9_gain
  refine v_obj ?_
  refine v_aload_n (i := 0) hc 0 rfl dX9_gain_0 rfl ?_
  refine v_iload_n (i := 1) hc 1 rfl dX9_gain_1 rfl ?_
  refine v_cB hc (m_V' (As := [.int p0]) (b := this) (rest := []) 1 hc hr (fun l D tys base => ct9_isPerson l D tys base h this p0) (fun x hx => ob9_isPerson hx) rfl s9_isPerson w_1653 rfl ⟨Nat.le_of_ble_eq_true rfl, Nat.le_of_ble_eq_true rfl⟩ ⟨Nat.le_of_ble_eq_true rfl, Nat.le_of_ble_eq_true rfl⟩ (Nat.le_of_ble_eq_true rfl) dX9_gain_2) fun x2 => ?_
  refine v_ifb_eq hc 15 dX9_gain_5 rfl ?_ ?_
  · refine v_iconst (x := (-1 : Int32)) hc dX9_gain_15 zi_m1 ?_
    exact v_iret hc hq rfl rfl (Nat.le_of_ble_eq_true rfl) (Nat.le_of_ble_eq_true rfl) rfl dX9_gain_16
  · refine v_iload_n (i := 2) hc 2 rfl dX9_gain_8 rfl ?_
    refine v_cB hc (m_S' (As := [.int p1]) (rest := []) 1 hc hr (fun l D tys base => ct9_isWeek l D tys base h p1) s9_isWeek w_1563 rfl ⟨Nat.le_of_ble_eq_true rfl, Nat.le_of_ble_eq_true rfl⟩ ⟨Nat.le_of_ble_eq_true rfl, Nat.le_of_ble_eq_true rfl⟩ (Nat.le_of_ble_eq_true rfl) dX9_gain_9) fun x9 => ?_
    refine v_ifb_ne hc 17 dX9_gain_12 rfl ?_ ?_
    · refine v_iconst (x := (0 : Int32)) hc dX9_gain_17 zi_0 ?_
      refine v_istore_n (i := 3) (L' := [(3, .int (0 : Int32)), (0, .ref this), (1, .int p0), (2, .int p1)]) hc dX9_gain_18 rfl (hn 3 (Nat.le_of_ble_eq_true rfl)) rfl ?_
      refine v_iconst (x := (0 : Int32)) hc dX9_gain_19 zi_0 ?_
      refine v_istore (i := 4) (L' := [(4, .int (0 : Int32)), (3, .int (0 : Int32)), (0, .ref this), (1, .int p0), (2, .int p1)]) hc dX9_gain_20 (hn 4 (Nat.le_of_ble_eq_true rfl)) rfl ?_
      refine v_sub (L' := [(0, .ref this), (1, .int p0), (2, .int p1), (3, .int (0 : Int32)), (4, .int (0 : Int32))]) [2, 3, 4, 1, 0] rfl ?_
      exact vl9_gain_22 hc hr hq hL h this p0 p1 FU (0 : Int32) (0 : Int32)
    · refine v_iconst (x := (-1 : Int32)) hc dX9_gain_15 zi_m1 ?_
      exact v_iret hc hq rfl rfl (Nat.le_of_ble_eq_true rfl) (Nat.le_of_ble_eq_true rfl) rfl dX9_gain_16
theorem s9_gain : YV yX9_gain RX9 cX9_gain 5 (some .int) 2 := ⟨w_1668, w_1666, w_1667, w_118, rfl, by decide +kernel, by decide +kernel, by decide +kernel⟩
def f9_count (h : AH) (this : Nat) (p0 : Int32) : Option (Int32) := (hObj 9 h this).bind fun _ => (if p0 = (0 : Int32) then (fR 9 0 h this).bind fun x65 => (aI 0 h x65 (0 : Int32)).bind fun x69 => some x69 else (if p0 = (1 : Int32) then (fR 9 0 h this).bind fun x72 => (aI 0 h x72 (1 : Int32)).bind fun x76 => some x76 else (if p0 = (2 : Int32) then (fR 9 0 h this).bind fun x79 => (aI 0 h x79 (2 : Int32)).bind fun x83 => some x83 else (if p0 = (3 : Int32) then (fR 9 0 h this).bind fun x86 => (aI 0 h x86 (3 : Int32)).bind fun x90 => some x90 else (if p0 = (4 : Int32) then (fR 9 0 h this).bind fun x93 => (aI 0 h x93 (4 : Int32)).bind fun x97 => some x97 else (if p0 = (5 : Int32) then (fR 9 0 h this).bind fun x100 => (aI 0 h x100 (5 : Int32)).bind fun x104 => some x104 else (if p0 = (6 : Int32) then (fI 9 14 h this).bind fun x107 => some x107 else (if p0 = (7 : Int32) then (fI 9 15 h this).bind fun x112 => some x112 else (if p0 = (8 : Int32) then (fR 9 0 h this).bind fun x117 => (aI 0 h x117 (6 : Int32)).bind fun x122 => some x122 else (if p0 = (9 : Int32) then (fR 9 0 h this).bind fun x125 => (aI 0 h x125 (7 : Int32)).bind fun x130 => some x130 else (if p0 = (10 : Int32) then (fR 9 0 h this).bind fun x133 => (aI 0 h x133 (8 : Int32)).bind fun x138 => some x138 else (if p0 = (11 : Int32) then (fI 9 2 h this).bind fun x141 => some x141 else some (-1 : Int32)))))))))))))
theorem ob9_count {h : AH} {this : Nat} {p0 : Int32} {x : Int32} (e : f9_count h this p0 = some x) : ∃ fs, hObj 9 h this = some fs := by
  unfold f9_count at e
  obtain ⟨fs, h1, -⟩ := bd e
  exact ⟨fs, h1⟩
set_option maxRecDepth 100000 in
theorem ct9_count (l : Launch) (D : va_G) (tys : Tys) (base : Nat) (h : AH) (this : Nat) (p0 : Int32) : Ct l D tys base yX9_count cX9_count 2 (some .int) 0 0 0 0 [.ref this, .int p0] h (rI h) (f9_count h this p0) := by
  refine Ct.intro (own := RX9) (L := [(0, .ref this), (1, .int p0)]) rfl (by decide) rfl (Nat.le_of_ble_eq_true rfl) fun κ hc hr hq hi hL => ?_
  have hn : ∀ i, i < 2 → i < κ.2.2.2.2.1 := fun i q => hL ▸ q
  unfold f9_count
  refine v_obj ?_
  refine v_iload_n (i := 1) hc 1 rfl dX9_count_0 rfl ?_
  refine v_ite (fun q0 => ?_) (fun q0 => ?_)
  · refine v_tIn hc (0 : Int32) q0 64 dX9_count_1 (by decide) (by decide) rfl rfl ?_
    refine v_aload_n (i := 0) hc 0 rfl dX9_count_64 rfl ?_
    refine v_getV hc kX9 0 (by decide) w_1131 rfl dX9_count_65 (gR rfl fun x65 => ?_)
    refine v_iconst (x := (0 : Int32)) hc dX9_count_68 zi_0 ?_
    refine v_iald hc dX9_count_69 fun x69 => ?_
    exact v_iret hc hq rfl rfl (Nat.le_of_ble_eq_true rfl) (Nat.le_of_ble_eq_true rfl) rfl dX9_count_70
  · refine v_ite (fun q1 => ?_) (fun q1 => ?_)
    · refine v_tIn hc (1 : Int32) q1 71 dX9_count_1 (by decide) (by decide) rfl rfl ?_
      refine v_aload_n (i := 0) hc 0 rfl dX9_count_71 rfl ?_
      refine v_getV hc kX9 0 (by decide) w_1131 rfl dX9_count_72 (gR rfl fun x72 => ?_)
      refine v_iconst (x := (1 : Int32)) hc dX9_count_75 zi_1 ?_
      refine v_iald hc dX9_count_76 fun x76 => ?_
      exact v_iret hc hq rfl rfl (Nat.le_of_ble_eq_true rfl) (Nat.le_of_ble_eq_true rfl) rfl dX9_count_77
    · refine v_ite (fun q2 => ?_) (fun q2 => ?_)
      · refine v_tIn hc (2 : Int32) q2 78 dX9_count_1 (by decide) (by decide) rfl rfl ?_
        refine v_aload_n (i := 0) hc 0 rfl dX9_count_78 rfl ?_
        refine v_getV hc kX9 0 (by decide) w_1131 rfl dX9_count_79 (gR rfl fun x79 => ?_)
        refine v_iconst (x := (2 : Int32)) hc dX9_count_82 zi_2 ?_
        refine v_iald hc dX9_count_83 fun x83 => ?_
        exact v_iret hc hq rfl rfl (Nat.le_of_ble_eq_true rfl) (Nat.le_of_ble_eq_true rfl) rfl dX9_count_84
      · refine v_ite (fun q3 => ?_) (fun q3 => ?_)
        · refine v_tIn hc (3 : Int32) q3 85 dX9_count_1 (by decide) (by decide) rfl rfl ?_
          refine v_aload_n (i := 0) hc 0 rfl dX9_count_85 rfl ?_
          refine v_getV hc kX9 0 (by decide) w_1131 rfl dX9_count_86 (gR rfl fun x86 => ?_)
          refine v_iconst (x := (3 : Int32)) hc dX9_count_89 zi_3 ?_
          refine v_iald hc dX9_count_90 fun x90 => ?_
          exact v_iret hc hq rfl rfl (Nat.le_of_ble_eq_true rfl) (Nat.le_of_ble_eq_true rfl) rfl dX9_count_91
        · refine v_ite (fun q4 => ?_) (fun q4 => ?_)
          · refine v_tIn hc (4 : Int32) q4 92 dX9_count_1 (by decide) (by decide) rfl rfl ?_
            refine v_aload_n (i := 0) hc 0 rfl dX9_count_92 rfl ?_
            refine v_getV hc kX9 0 (by decide) w_1131 rfl dX9_count_93 (gR rfl fun x93 => ?_)
            refine v_iconst (x := (4 : Int32)) hc dX9_count_96 zi_4 ?_
            refine v_iald hc dX9_count_97 fun x97 => ?_
            exact v_iret hc hq rfl rfl (Nat.le_of_ble_eq_true rfl) (Nat.le_of_ble_eq_true rfl) rfl dX9_count_98
          · refine v_ite (fun q5 => ?_) (fun q5 => ?_)
            · refine v_tIn hc (5 : Int32) q5 99 dX9_count_1 (by decide) (by decide) rfl rfl ?_
              refine v_aload_n (i := 0) hc 0 rfl dX9_count_99 rfl ?_
              refine v_getV hc kX9 0 (by decide) w_1131 rfl dX9_count_100 (gR rfl fun x100 => ?_)
              refine v_iconst (x := (5 : Int32)) hc dX9_count_103 zi_5 ?_
              refine v_iald hc dX9_count_104 fun x104 => ?_
              exact v_iret hc hq rfl rfl (Nat.le_of_ble_eq_true rfl) (Nat.le_of_ble_eq_true rfl) rfl dX9_count_105
            · refine v_ite (fun q6 => ?_) (fun q6 => ?_)
              · refine v_tIn hc (6 : Int32) q6 106 dX9_count_1 (by decide) (by decide) rfl rfl ?_
                refine v_aload_n (i := 0) hc 0 rfl dX9_count_106 rfl ?_
                refine v_getV hc kX9 14 (by decide) w_1145 rfl dX9_count_107 (gI rfl fun x107 => ?_)
                exact v_iret hc hq rfl rfl (Nat.le_of_ble_eq_true rfl) (Nat.le_of_ble_eq_true rfl) rfl dX9_count_110
              · refine v_ite (fun q7 => ?_) (fun q7 => ?_)
                · refine v_tIn hc (7 : Int32) q7 111 dX9_count_1 (by decide) (by decide) rfl rfl ?_
                  refine v_aload_n (i := 0) hc 0 rfl dX9_count_111 rfl ?_
                  refine v_getV hc kX9 15 (by decide) w_1146 rfl dX9_count_112 (gI rfl fun x112 => ?_)
                  exact v_iret hc hq rfl rfl (Nat.le_of_ble_eq_true rfl) (Nat.le_of_ble_eq_true rfl) rfl dX9_count_115
                · refine v_ite (fun q8 => ?_) (fun q8 => ?_)
                  · refine v_tIn hc (8 : Int32) q8 116 dX9_count_1 (by decide) (by decide) rfl rfl ?_
                    refine v_aload_n (i := 0) hc 0 rfl dX9_count_116 rfl ?_
                    refine v_getV hc kX9 0 (by decide) w_1131 rfl dX9_count_117 (gR rfl fun x117 => ?_)
                    refine v_bipush (x := (6 : Int32)) hc dX9_count_120 zb_6 ?_
                    refine v_iald hc dX9_count_122 fun x122 => ?_
                    exact v_iret hc hq rfl rfl (Nat.le_of_ble_eq_true rfl) (Nat.le_of_ble_eq_true rfl) rfl dX9_count_123
                  · refine v_ite (fun q9 => ?_) (fun q9 => ?_)
                    · refine v_tIn hc (9 : Int32) q9 124 dX9_count_1 (by decide) (by decide) rfl rfl ?_
                      refine v_aload_n (i := 0) hc 0 rfl dX9_count_124 rfl ?_
                      refine v_getV hc kX9 0 (by decide) w_1131 rfl dX9_count_125 (gR rfl fun x125 => ?_)
                      refine v_bipush (x := (7 : Int32)) hc dX9_count_128 zb_7 ?_
                      refine v_iald hc dX9_count_130 fun x130 => ?_
                      exact v_iret hc hq rfl rfl (Nat.le_of_ble_eq_true rfl) (Nat.le_of_ble_eq_true rfl) rfl dX9_count_131
                    · refine v_ite (fun q10 => ?_) (fun q10 => ?_)
                      · refine v_tIn hc (10 : Int32) q10 132 dX9_count_1 (by decide) (by decide) rfl rfl ?_
                        refine v_aload_n (i := 0) hc 0 rfl dX9_count_132 rfl ?_
                        refine v_getV hc kX9 0 (by decide) w_1131 rfl dX9_count_133 (gR rfl fun x133 => ?_)
                        refine v_bipush (x := (8 : Int32)) hc dX9_count_136 zb_8 ?_
                        refine v_iald hc dX9_count_138 fun x138 => ?_
                        exact v_iret hc hq rfl rfl (Nat.le_of_ble_eq_true rfl) (Nat.le_of_ble_eq_true rfl) rfl dX9_count_139
                      · refine v_ite (fun q11 => ?_) (fun q11 => ?_)
                        · refine v_tIn hc (11 : Int32) q11 140 dX9_count_1 (by decide) (by decide) rfl rfl ?_
                          refine v_aload_n (i := 0) hc 0 rfl dX9_count_140 rfl ?_
                          refine v_getV hc kX9 2 (by decide) w_1133 rfl dX9_count_141 (gI rfl fun x141 => ?_)
                          exact v_iret hc hq rfl rfl (Nat.le_of_ble_eq_true rfl) (Nat.le_of_ble_eq_true rfl) rfl dX9_count_144
                        · refine v_tOut hc 145 dX9_count_1 (by have e0 := lv_neT (a := 0) q0 (by decide); have e1 := lv_neT (a := 1) q1 (by decide); have e2 := lv_neT (a := 2) q2 (by decide); have e3 := lv_neT (a := 3) q3 (by decide); have e4 := lv_neT (a := 4) q4 (by decide); have e5 := lv_neT (a := 5) q5 (by decide); have e6 := lv_neT (a := 6) q6 (by decide); have e7 := lv_neT (a := 7) q7 (by decide); have e8 := lv_neT (a := 8) q8 (by decide); have e9 := lv_neT (a := 9) q9 (by decide); have e10 := lv_neT (a := 10) q10 (by decide); have e11 := lv_neT (a := 11) q11 (by decide); omega) rfl ?_
                          refine v_iconst (x := (-1 : Int32)) hc dX9_count_145 zi_m1 ?_
                          exact v_iret hc hq rfl rfl (Nat.le_of_ble_eq_true rfl) (Nat.le_of_ble_eq_true rfl) rfl dX9_count_146
theorem s9_count : YV yX9_count RX9 cX9_count 2 (some .int) 1 := ⟨w_1672, w_1670, w_1671, w_118, rfl, by decide +kernel, by decide +kernel, by decide +kernel⟩
def f9_image_23 (v0 : Nat) (v1 : Int32) : Nat → AH → Int32 → Option (Int32 × AH)
  | 0, _, _ => none
  | n + 1, h, v2 => (if (5070 : Int32) ≤ v2 then (fR 9 0 h v0).bind fun x55 => (aI 0 h x55 (0 : Int32)).bind fun x59 => some (x59, h) else (fR 9 34 h v0).bind fun x31 => (fR 9 0 h v0).bind fun x42 => (aI 0 h x42 v2).bind fun x46 => (sI 0 h x31 (((5070 : Int32) * v1) + v2) x46).bind fun h47 => (some (v2 + (1 : Int32))).bind fun x48 => f9_image_23 v0 v1 n h47 x48)
set_option maxRecDepth 100000 in
theorem vl9_image_23 {κ : Kx} (hc : CX κ RX9 cX9_image) (hr : RX κ ({ frames := 1, cells := 0, slots := 0, locals := 25 } : Room)) (hq : QX κ (some .int) 0 0) (hL : 3 = κ.2.2.2.2.1)  (v0 : Nat) (v1 : Int32) : ∀ n (h : AH) (v2 : Int32), V κ (wI) 0 0 23 [(0, .ref v0), (1, .int v1), (2, .int v2)] [] h (f9_image_23 v0 v1 n h v2) := by
  have hn : ∀ i, i < 3 → i < κ.2.2.2.2.1 := fun i q => hL ▸ q
  intro n
  induction n with
  | zero => intros; exact v_none
  | succ n ih =>
    intro h v2
    rw [f9_image_23.eq_2]
    refine v_iload_n (i := 2) hc 2 rfl dX9_image_23 rfl ?_
    refine v_sipush (x := (5070 : Int32)) hc dX9_image_24 zs_5070 ?_
    refine v_icmp_ge hc 54 dX9_image_27 rfl ?_ ?_
    · refine v_aload_n (i := 0) hc 0 rfl dX9_image_54 rfl ?_
      refine v_getV hc kX9 0 (by decide) w_1131 rfl dX9_image_55 (gR rfl fun x55 => ?_)
      refine v_iconst (x := (0 : Int32)) hc dX9_image_58 zi_0 ?_
      refine v_iald hc dX9_image_59 fun x59 => ?_
      exact v_iret hc hq rfl rfl (Nat.le_of_ble_eq_true rfl) (Nat.le_of_ble_eq_true rfl) rfl dX9_image_60
    · refine v_aload_n (i := 0) hc 0 rfl dX9_image_30 rfl ?_
      refine v_getV hc kX9 34 (by decide) w_1165 rfl dX9_image_31 (gR rfl fun x31 => ?_)
      refine v_sipush (x := (5070 : Int32)) hc dX9_image_34 zs_5070 ?_
      refine v_iload_n (i := 1) hc 1 rfl dX9_image_37 rfl ?_
      refine v_imul hc dX9_image_38 ?_
      refine v_iload_n (i := 2) hc 2 rfl dX9_image_39 rfl ?_
      refine v_iadd hc dX9_image_40 ?_
      refine v_aload_n (i := 0) hc 0 rfl dX9_image_41 rfl ?_
      refine v_getV hc kX9 0 (by decide) w_1131 rfl dX9_image_42 (gR rfl fun x42 => ?_)
      refine v_iload_n (i := 2) hc 2 rfl dX9_image_45 rfl ?_
      refine v_iald hc dX9_image_46 fun x46 => ?_
      refine v_iast hc dX9_image_47 fun h47 => ?_
      refine v_iincN (i := 2) (y := (1 : Int32)) (L' := fun z => [(2, .int z), (0, .ref v0), (1, .int v1)]) hc 2 rfl dX9_image_48 zi_1 (hn 2 (Nat.le_of_ble_eq_true rfl)) (fun _ => rfl) fun x48 => ?_
      refine v_goto hc 23 dX9_image_51 rfl ?_
      refine v_sub (L' := [(0, .ref v0), (1, .int v1), (2, .int x48)]) [1, 2, 0] rfl ?_
      exact ih h47 x48
def f9_image (h : AH) (this : Nat) (p0 : Int32) : Option (Int32 × AH) := (hObj 9 h this).bind fun _ => (f9_in h p0.toInt64 (0 : Int64) (3 : Int64)).bind fun x6 => (if x6 = true then (fR 9 35 h this).bind fun x15 => (sI 3 h x15 p0 (vp_nar .boolean (1 : Int32))).bind fun h20 => f9_image_23 this p0 FU h20 (0 : Int32) else some ((-1 : Int32), h))
theorem ob9_image {h : AH} {this : Nat} {p0 : Int32} {x : Int32 × AH} (e : f9_image h this p0 = some x) : ∃ fs, hObj 9 h this = some fs := by
  unfold f9_image at e
  obtain ⟨fs, h1, -⟩ := bd e
  exact ⟨fs, h1⟩
set_option maxRecDepth 100000 in
theorem ct9_image (l : Launch) (D : va_G) (tys : Tys) (base : Nat) (h : AH) (this : Nat) (p0 : Int32) : Ct l D tys base yX9_image cX9_image 3 (some .int) 1 25 0 0 [.ref this, .int p0] h (wI) (f9_image h this p0) := by
  refine Ct.intro (own := RX9) (L := [(0, .ref this), (1, .int p0)]) rfl (by decide) rfl (Nat.le_of_ble_eq_true rfl) fun κ hc hr hq hi hL => ?_
  have hn : ∀ i, i < 3 → i < κ.2.2.2.2.1 := fun i q => hL ▸ q
  unfold f9_image
  refine v_obj ?_
  refine v_iload_n (i := 1) hc 1 rfl dX9_image_0 rfl ?_
  refine v_i2l hc dX9_image_1 ?_
  refine v_lconst (x := (0 : Int64)) hc dX9_image_2 (by decide) ?_
  refine v_ldc2 (x := (3 : Int64)) hc w_1677 dX9_image_3 ?_
  refine v_cB hc (m_S' (As := [.long p0.toInt64, .long (0 : Int64), .long (3 : Int64)]) (rest := []) 3 hc hr (fun l D tys base => ct9_in l D tys base h p0.toInt64 (0 : Int64) (3 : Int64)) s9_in w_1246 rfl ⟨Nat.le_of_ble_eq_true rfl, Nat.le_of_ble_eq_true rfl⟩ ⟨Nat.le_of_ble_eq_true rfl, Nat.le_of_ble_eq_true rfl⟩ (Nat.le_of_ble_eq_true rfl) dX9_image_6) fun x6 => ?_
  refine v_ifb_ne hc 14 dX9_image_9 rfl ?_ ?_
  · refine v_aload_n (i := 0) hc 0 rfl dX9_image_14 rfl ?_
    refine v_getV hc kX9 35 (by decide) w_1166 rfl dX9_image_15 (gR rfl fun x15 => ?_)
    refine v_iload_n (i := 1) hc 1 rfl dX9_image_18 rfl ?_
    refine v_iconst (x := (1 : Int32)) hc dX9_image_19 zi_1 ?_
    refine v_zast hc dX9_image_20 fun h20 => ?_
    refine v_iconst (x := (0 : Int32)) hc dX9_image_21 zi_0 ?_
    refine v_istore_n (i := 2) (L' := [(2, .int (0 : Int32)), (0, .ref this), (1, .int p0)]) hc dX9_image_22 rfl (hn 2 (Nat.le_of_ble_eq_true rfl)) rfl ?_
    refine v_sub (L' := [(0, .ref this), (1, .int p0), (2, .int (0 : Int32))]) [1, 2, 0] rfl ?_
    exact vl9_image_23 hc hr hq hL this p0 FU h20 (0 : Int32)
  · refine v_iconst (x := (-1 : Int32)) hc dX9_image_12 zi_m1 ?_
    exact v_iret hc hq rfl rfl (Nat.le_of_ble_eq_true rfl) (Nat.le_of_ble_eq_true rfl) rfl dX9_image_13
theorem s9_image : YV yX9_image RX9 cX9_image 3 (some .int) 1 := ⟨w_1676, w_1674, w_1675, w_118, rfl, by decide +kernel, by decide +kernel, by decide +kernel⟩
def f9_back_25 (v0 : Nat) (v1 : Int32) : Nat → AH → Int32 → Option (Int32 × AH)
  | 0, _, _ => none
  | n + 1, h, v2 => (if (5070 : Int32) ≤ v2 then (fR 9 0 h v0).bind fun x57 => (aI 0 h x57 (0 : Int32)).bind fun x61 => some (x61, h) else (fR 9 0 h v0).bind fun x33 => (fR 9 34 h v0).bind fun x38 => (aI 0 h x38 (((5070 : Int32) * v1) + v2)).bind fun x48 => (sI 0 h x33 v2 x48).bind fun h49 => (some (v2 + (1 : Int32))).bind fun x50 => f9_back_25 v0 v1 n h49 x50)
set_option maxRecDepth 100000 in
theorem vl9_back_25 {κ : Kx} (hc : CX κ RX9 cX9_back) (hr : RX κ ({ frames := 1, cells := 0, slots := 0, locals := 25 } : Room)) (hq : QX κ (some .int) 0 0) (hL : 3 = κ.2.2.2.2.1)  (v0 : Nat) (v1 : Int32) : ∀ n (h : AH) (v2 : Int32), V κ (wI) 0 0 25 [(0, .ref v0), (1, .int v1), (2, .int v2)] [] h (f9_back_25 v0 v1 n h v2) := by
  have hn : ∀ i, i < 3 → i < κ.2.2.2.2.1 := fun i q => hL ▸ q
  intro n
  induction n with
  | zero => intros; exact v_none
  | succ n ih =>
    intro h v2
    rw [f9_back_25.eq_2]
    refine v_iload_n (i := 2) hc 2 rfl dX9_back_25 rfl ?_
    refine v_sipush (x := (5070 : Int32)) hc dX9_back_26 zs_5070 ?_
    refine v_icmp_ge hc 56 dX9_back_29 rfl ?_ ?_
    · refine v_aload_n (i := 0) hc 0 rfl dX9_back_56 rfl ?_
      refine v_getV hc kX9 0 (by decide) w_1131 rfl dX9_back_57 (gR rfl fun x57 => ?_)
      refine v_iconst (x := (0 : Int32)) hc dX9_back_60 zi_0 ?_
      refine v_iald hc dX9_back_61 fun x61 => ?_
      exact v_iret hc hq rfl rfl (Nat.le_of_ble_eq_true rfl) (Nat.le_of_ble_eq_true rfl) rfl dX9_back_62
    · refine v_aload_n (i := 0) hc 0 rfl dX9_back_32 rfl ?_
      refine v_getV hc kX9 0 (by decide) w_1131 rfl dX9_back_33 (gR rfl fun x33 => ?_)
      refine v_iload_n (i := 2) hc 2 rfl dX9_back_36 rfl ?_
      refine v_aload_n (i := 0) hc 0 rfl dX9_back_37 rfl ?_
      refine v_getV hc kX9 34 (by decide) w_1165 rfl dX9_back_38 (gR rfl fun x38 => ?_)
      refine v_sipush (x := (5070 : Int32)) hc dX9_back_41 zs_5070 ?_
      refine v_iload_n (i := 1) hc 1 rfl dX9_back_44 rfl ?_
      refine v_imul hc dX9_back_45 ?_
      refine v_iload_n (i := 2) hc 2 rfl dX9_back_46 rfl ?_
      refine v_iadd hc dX9_back_47 ?_
      refine v_iald hc dX9_back_48 fun x48 => ?_
      refine v_iast hc dX9_back_49 fun h49 => ?_
      refine v_iincN (i := 2) (y := (1 : Int32)) (L' := fun z => [(2, .int z), (0, .ref v0), (1, .int v1)]) hc 2 rfl dX9_back_50 zi_1 (hn 2 (Nat.le_of_ble_eq_true rfl)) (fun _ => rfl) fun x50 => ?_
      refine v_goto hc 25 dX9_back_53 rfl ?_
      refine v_sub (L' := [(0, .ref v0), (1, .int v1), (2, .int x50)]) [1, 2, 0] rfl ?_
      exact ih h49 x50
def f9_back (h : AH) (this : Nat) (p0 : Int32) : Option (Int32 × AH) := (hObj 9 h this).bind fun _ => (f9_in h p0.toInt64 (0 : Int64) (3 : Int64)).bind fun x6 => (if x6 = true then (fR 9 35 h this).bind fun x13 => (aI 3 h x13 p0).bind fun x17 => (if x17 = 0 then some ((-1 : Int32), h) else f9_back_25 this p0 FU h (0 : Int32)) else some ((-1 : Int32), h))
theorem ob9_back {h : AH} {this : Nat} {p0 : Int32} {x : Int32 × AH} (e : f9_back h this p0 = some x) : ∃ fs, hObj 9 h this = some fs := by
  unfold f9_back at e
  obtain ⟨fs, h1, -⟩ := bd e
  exact ⟨fs, h1⟩
set_option maxRecDepth 100000 in
theorem ct9_back (l : Launch) (D : va_G) (tys : Tys) (base : Nat) (h : AH) (this : Nat) (p0 : Int32) : Ct l D tys base yX9_back cX9_back 3 (some .int) 1 25 0 0 [.ref this, .int p0] h (wI) (f9_back h this p0) := by
  refine Ct.intro (own := RX9) (L := [(0, .ref this), (1, .int p0)]) rfl (by decide) rfl (Nat.le_of_ble_eq_true rfl) fun κ hc hr hq hi hL => ?_
  have hn : ∀ i, i < 3 → i < κ.2.2.2.2.1 := fun i q => hL ▸ q
  unfold f9_back
  refine v_obj ?_
  refine v_iload_n (i := 1) hc 1 rfl dX9_back_0 rfl ?_
  refine v_i2l hc dX9_back_1 ?_
  refine v_lconst (x := (0 : Int64)) hc dX9_back_2 (by decide) ?_
  refine v_ldc2 (x := (3 : Int64)) hc w_1677 dX9_back_3 ?_
  refine v_cB hc (m_S' (As := [.long p0.toInt64, .long (0 : Int64), .long (3 : Int64)]) (rest := []) 3 hc hr (fun l D tys base => ct9_in l D tys base h p0.toInt64 (0 : Int64) (3 : Int64)) s9_in w_1246 rfl ⟨Nat.le_of_ble_eq_true rfl, Nat.le_of_ble_eq_true rfl⟩ ⟨Nat.le_of_ble_eq_true rfl, Nat.le_of_ble_eq_true rfl⟩ (Nat.le_of_ble_eq_true rfl) dX9_back_6) fun x6 => ?_
  refine v_ifb_eq hc 21 dX9_back_9 rfl ?_ ?_
  · refine v_iconst (x := (-1 : Int32)) hc dX9_back_21 zi_m1 ?_
    exact v_iret hc hq rfl rfl (Nat.le_of_ble_eq_true rfl) (Nat.le_of_ble_eq_true rfl) rfl dX9_back_22
  · refine v_aload_n (i := 0) hc 0 rfl dX9_back_12 rfl ?_
    refine v_getV hc kX9 35 (by decide) w_1166 rfl dX9_back_13 (gR rfl fun x13 => ?_)
    refine v_iload_n (i := 1) hc 1 rfl dX9_back_16 rfl ?_
    refine v_zald hc dX9_back_17 fun x17 => ?_
    refine v_if_ne hc 23 dX9_back_18 rfl ?_ ?_
    · refine v_iconst (x := (0 : Int32)) hc dX9_back_23 zi_0 ?_
      refine v_istore_n (i := 2) (L' := [(2, .int (0 : Int32)), (0, .ref this), (1, .int p0)]) hc dX9_back_24 rfl (hn 2 (Nat.le_of_ble_eq_true rfl)) rfl ?_
      refine v_sub (L' := [(0, .ref this), (1, .int p0), (2, .int (0 : Int32))]) [1, 2, 0] rfl ?_
      exact vl9_back_25 hc hr hq hL this p0 FU h (0 : Int32)
    · refine v_iconst (x := (-1 : Int32)) hc dX9_back_21 zi_m1 ?_
      exact v_iret hc hq rfl rfl (Nat.le_of_ble_eq_true rfl) (Nat.le_of_ble_eq_true rfl) rfl dX9_back_22
theorem s9_back : YV yX9_back RX9 cX9_back 3 (some .int) 1 := ⟨w_1681, w_1679, w_1680, w_118, rfl, by decide +kernel, by decide +kernel, by decide +kernel⟩
