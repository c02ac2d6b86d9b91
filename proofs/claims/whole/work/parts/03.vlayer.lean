/-! THE ABSTRACT HEAP. A cell: an array (number of its type in TYL, length and contents) or an object (number of its class in vwCl, its fields). A heap: how many cells the machine's has, and what is known of a cell. -/
abbrev AE : Type := (Nat × vp_A) ⊕ (Nat × List Value)
abbrev AH : Type := Nat × (Nat → Option AE)
abbrev Tys : Type := List (ClassId × FieldType)
def TYL : List FieldType := [.int, .long, .byte, .boolean, .object RX7, .object RX3, .object RX0]
def toE (tys : Tys) (e : AE) : va_E := match e with
  | .inl x => .inl ((tys.getD x.1 (0, .int)).1, x.2)
  | .inr o => .inr o
def hU (h : AH) (a : Nat) (e : AE) : AH := (h.1, fun b => if b = a then some e else h.2 b)
def hN (h : AH) (e : AE) : AH := (h.1 + 1, fun b => if b = h.1 then some e else h.2 b)
def HP (D : va_G) (tys : Tys) (base : Nat) (h : AH) (H : Heap) : Prop := h.1 = H.size ∧ base ≤ h.1 ∧ ∀ (a : Nat) (e : AE), h.2 a = some e → base ≤ a ∧ va_at D vwCl (a, toE tys e) H
theorem HP.at {D : va_G} {tys : Tys} {base : Nat} {h : AH} {H : Heap} (hh : HP D tys base h H) {a : Nat} {e : AE} (he : h.2 a = some e) : va_at D vwCl (a, toE tys e) H := (hh.2.2 a e he).2
theorem HP.one {D : va_G} {tys : Tys} {base : Nat} {h : AH} {H : Heap} (hh : HP D tys base h H) {a : Nat} {e : AE} (he : h.2 a = some e) : va_P D vwCl [(a, toE tys e)] H := by
  intro k q hk
  match k, hk with
  | 0, hk => cases hk; exact hh.at he
  | k + 1, hk => simp at hk
theorem HP.set {D : va_G} {tys : Tys} {base : Nat} {h : AH} {H H1 : Heap} (hh : HP D tys base h H) {a : Nat} {e0 e : AE} (he : h.2 a = some e0) (h1 : va_at D vwCl (a, toE tys e) H1) (z : H1.size = H.size) (oq : ∀ q : Nat, q ≠ a → H1[q]? = H[q]?) : HP D tys base (hU h a e) H1 := by
  refine ⟨hh.1.trans z.symm, hh.2.1, fun b x hx => ?_⟩
  by_cases hb : b = a
  · subst hb
    simp only [hU, if_pos] at hx
    cases hx
    exact ⟨(hh.2.2 b _ he).1, h1⟩
  · simp only [hU, if_neg hb] at hx
    exact ⟨(hh.2.2 b _ hx).1, (hh.2.2 b _ hx).2.kept (oq b hb)⟩
theorem HP.new {D : va_G} {tys : Tys} {base : Nat} {h : AH} {H H1 : Heap} (hh : HP D tys base h H) {e : AE} (h1 : va_at D vwCl (H.size, toE tys e) H1) (z : H1.size = H.size + 1) (oq : ∀ q : Nat, q < H.size → H1[q]? = H[q]?) : HP D tys base (hN h e) H1 := by
  refine ⟨by rw [z, ← hh.1]; rfl, Nat.le_succ_of_le hh.2.1, fun b x hx => ?_⟩
  by_cases hb : b = h.1
  · subst hb
    simp only [hN, if_pos] at hx
    cases hx
    rw [← hh.1] at h1
    exact ⟨hh.2.1, h1⟩
  · simp only [hN, if_neg hb] at hx
    have := (hh.2.2 b _ hx).2.lt
    exact ⟨(hh.2.2 b _ hx).1, (hh.2.2 b _ hx).2.kept (oq b this)⟩
/-! what a program does with it -/
def hObj (ci : Nat) (h : AH) (a : Nat) : Option (List Value) := match h.2 a with
  | some (.inr (c, fs)) => if c = ci then some fs else none
  | _ => none
def vI (v : Option Value) : Option Int32 := match v with
  | some (.int x) => some x
  | _ => none
def vL (v : Option Value) : Option Int64 := match v with
  | some (.long x) => some x
  | _ => none
def vR (v : Option Value) : Option Nat := match v with
  | some (.ref x) => some x
  | _ => none
def vQ (v : Option Value) : Option (Option Nat) := match v with
  | some (.ref x) => some (some x)
  | some .null => some none
  | _ => none
def fI (ci k : Nat) (h : AH) (a : Nat) : Option Int32 := (hObj ci h a).bind fun fs => vI fs[k]?
def fL (ci k : Nat) (h : AH) (a : Nat) : Option Int64 := (hObj ci h a).bind fun fs => vL fs[k]?
def fR (ci k : Nat) (h : AH) (a : Nat) : Option Nat := (hObj ci h a).bind fun fs => vR fs[k]?
def fQ (ci k : Nat) (h : AH) (a : Nat) : Option (Option Nat) := (hObj ci h a).bind fun fs => vQ fs[k]?
def fS (ci k : Nat) (h : AH) (a : Nat) (v : Value) : Option AH := (hObj ci h a).bind fun fs => if k < fs.length then some (hU h a (.inr (ci, fs.set k v))) else none
def xI (t : Nat) (h : AH) (a : Nat) : Option (Nat × (Nat → Int32)) := match h.2 a with
  | some (.inl (c, n, .inl f)) => if c = t then some (n, f) else none
  | _ => none
def xL (h : AH) (a : Nat) : Option (Nat × (Nat → Int64)) := match h.2 a with
  | some (.inl (c, n, .inr (.inl f))) => if c = 1 then some (n, f) else none
  | _ => none
def xQ (t : Nat) (h : AH) (a : Nat) : Option (Nat × (Nat → Option Nat)) := match h.2 a with
  | some (.inl (c, n, .inr (.inr (.inr (.inr f))))) => if c = t then some (n, f) else none
  | _ => none
def aN (h : AH) (a : Nat) : Option Int32 := match h.2 a with
  | some (.inl (c, x)) => if c < 7 then some (Int32.ofNat x.1) else none
  | _ => none
def ix (i : Int32) (n : Nat) : Option Nat := if i < 0 ∨ n ≤ i.toNatClampNeg then none else some i.toNatClampNeg
def aI (t : Nat) (h : AH) (a : Nat) (i : Int32) : Option Int32 := (xI t h a).bind fun x => (ix i x.1).bind fun j => some (x.2 j)
def aL' (h : AH) (a : Nat) (i : Int32) : Option Int64 := (xL h a).bind fun x => (ix i x.1).bind fun j => some (x.2 j)
def aQ (t : Nat) (h : AH) (a : Nat) (i : Int32) : Option (Option Nat) := (xQ t h a).bind fun x => (ix i x.1).bind fun j => some (x.2 j)
def sI (t : Nat) (h : AH) (a : Nat) (i v : Int32) : Option AH := (xI t h a).bind fun x => (ix i x.1).bind fun j => some (hU h a (.inl (t, x.1, .inl (upd x.2 j v))))
def sL (h : AH) (a : Nat) (i : Int32) (v : Int64) : Option AH := (xL h a).bind fun x => (ix i x.1).bind fun j => some (hU h a (.inl (1, x.1, .inr (.inl (vp_updL x.2 j v)))))
def sR (t ci : Nat) (h : AH) (a : Nat) (i : Int32) (v : Nat) : Option AH := (xQ t h a).bind fun x => (ix i x.1).bind fun j => (hObj ci h v).bind fun _ => some (hU h a (.inl (t, x.1, .inr (.inr (.inr (.inr (va_up x.2 j (some v))))))))
def nA (t : Nat) (h : AH) (n : Int32) : Option (Nat × AH) := if n < 0 then none else match t with
  | 0 => some (h.1, hN h (.inl (0, n.toNatClampNeg, .inl fun _ => 0)))
  | 1 => some (h.1, hN h (.inl (1, n.toNatClampNeg, .inr (.inl fun _ => 0))))
  | 2 => some (h.1, hN h (.inl (2, n.toNatClampNeg, .inl fun _ => 0)))
  | 3 => some (h.1, hN h (.inl (3, n.toNatClampNeg, .inl fun _ => 0)))
  | t => some (h.1, hN h (.inl (t, n.toNatClampNeg, .inr (.inr (.inr (.inr fun _ => none))))))
def oM {β : Type} (x : Option Nat) (A : β) (B : Nat → β) : β := match x with
  | none => A
  | some a => B a
def bI (b : Bool) : Int32 := match b with
  | true => 1
  | false => 0
def rI (h : AH) (x : Int32) : Option Value × AH := (some (.int x), h)
def rB (h : AH) (x : Bool) : Option Value × AH := (some (.int (bI x)), h)
def rL (h : AH) (x : Int64) : Option Value × AH := (some (.long x), h)
def rQ (h : AH) (x : Option Nat) : Option Value × AH := (some (va_rf x), h)
def rV (h : AH) (_ : Unit) : Option Value × AH := (none, h)
def wV (h : AH) : Option Value × AH := (none, h)
def wI (x : Int32 × AH) : Option Value × AH := (some (.int x.1), x.2)
def wB (x : Bool × AH) : Option Value × AH := (some (.int (bI x.1)), x.2)
def wL (x : Int64 × AH) : Option Value × AH := (some (.long x.1), x.2)
def wQ (x : Option Nat × AH) : Option Value × AH := (some (va_rf x.1), x.2)
/-! words that every method may rest on -/
def WT : List Cond := lw_tbl.filter goodWord
theorem wT0 {w : Cond} (h : w ∈ tables_1) (g : goodWord w = true) : w ∈ WT := List.mem_filter.mpr ⟨List.mem_append_right _ h, g⟩
theorem wT1 {w : Cond} (h : w ∈ tables_1_1) : w ∈ tables_1 := List.mem_append_left _ h
theorem wT2 {w : Cond} (h : w ∈ tables_1_2) : w ∈ tables_1 := List.mem_append_right _ (List.mem_append_left _ h)
theorem wT3 {w : Cond} (h : w ∈ tables_1_3) : w ∈ tables_1 := List.mem_append_right _ (List.mem_append_right _ (List.mem_append_left _ h))
theorem wT4 {w : Cond} (h : w ∈ tables_1_4) : w ∈ tables_1 := List.mem_append_right _ (List.mem_append_right _ (List.mem_append_right _ (List.mem_append_left _ h)))
theorem wT5 {w : Cond} (h : w ∈ tables_1_5) : w ∈ tables_1 := List.mem_append_right _ (List.mem_append_right _ (List.mem_append_right _ (List.mem_append_right _ (List.mem_append_left _ h))))
theorem wT6 {w : Cond} (h : w ∈ tables_1_6) : w ∈ tables_1 := List.mem_append_right _ (List.mem_append_right _ (List.mem_append_right _ (List.mem_append_right _ (List.mem_append_right _ (List.mem_append_left _ h)))))
theorem wT7 {w : Cond} (h : w ∈ tables_1_7) : w ∈ tables_1 := List.mem_append_right _ (List.mem_append_right _ (List.mem_append_right _ (List.mem_append_right _ (List.mem_append_right _ (List.mem_append_right _ h)))))
theorem wTS {q : MethodName × Nat} (h : q ∈ lw_privs) : Cond.selects q.1.cls q.1 q.1 ∈ WT := List.mem_filter.mpr ⟨List.mem_append_left _ (List.mem_map.mpr ⟨q, h, rfl⟩), rfl⟩
/-- the words of nest mates, which go from method to method by themselves -/
def isNest (w : Cond) : Bool := match w with
  | .fieldLinkNest _ _ _ _ _ _ => true
  | .methodLinkNest _ _ _ _ => true
  | .arrayOver (.object _) => true
  | _ => false
def NT : List Cond := lw_tbl.filter isNest
theorem nT0 {w : Cond} (h : w ∈ tables_1) (g : isNest w = true) : w ∈ NT := List.mem_filter.mpr ⟨List.mem_append_right _ h, g⟩
def NW (U : State) : Prop := ∀ w ∈ NT, va_Nw w U
theorem NW.moved {s U : State} (hW : s.WarmedH U.vm) (h : NW s) : NW U := by
  intro w hw
  have q := (List.mem_filter.mp hw).2
  have e := h w hw
  unfold isNest at q
  split at q
  · exact va_Nw.warmF hW e
  · exact va_Nw.warmM hW e
  · exact va_AO.moved hW.alike e
  · cases q
theorem NW.same {s U : State} (hv : s.vm = U.vm) (h : NW s) : NW U := by
  intro w hw
  have q := (List.mem_filter.mp hw).2
  have e := h w hw
  unfold isNest at q
  split at q
  · exact va_Nw.same rfl hv e
  · exact va_Nw.same rfl hv e
  · exact va_AO.moved (by rw [hv]; exact Vm.Alike.refl _) e
  · cases q
theorem NW.use {w : Cond} {A : Array Value} {U : State} (h : NW U) (hw : w ∈ NT) : w.before A U = true := by
  have q := (List.mem_filter.mp hw).2
  have e := h w hw
  unfold isNest at q
  split at q
  · exact va_Nw.use rfl e
  · exact va_Nw.use rfl e
  · exact va_AO.use e
  · cases q
theorem NW.of {A : Array Value} {U : State} (h : ∀ w ∈ lw_tbl, w.before A U = true) : NW U := by
  intro w hw
  have q := List.mem_filter.mp hw
  have e := h w q.1
  have q := q.2
  unfold isNest at q
  split at q
  · exact va_Nw.of rfl e
  · exact va_Nw.of rfl e
  · exact va_AO.of e
  · cases q
theorem WT_good {y : MethodName} {b : ByteArray} {n : Nat} {r : Option FieldType} (h : Cond.code y b n r ∈ WT) : GoodIn WT (.code y b n r :: WT) := by
  intro w hw
  have hm : w ∈ WT := by
    rcases List.mem_cons.mp hw with e | e
    · rw [e]; exact h
    · exact e
  exact ⟨hm, good_of_word (List.mem_filter.mp hm).2⟩
/-- the class's one String constant, and what the JDK's code reads of it: old cells, which nobody writes -/
def WTX : String := "apart own late wrong shared nowhere pages price week volumes yes takes coins pace slips from of if or and not "
def WBY : List Int32 := [97, 112, 97, 114, 116, 32, 111, 119, 110, 32, 108, 97, 116, 101, 32, 119, 114, 111, 110, 103, 32, 115, 104, 97, 114, 101, 100, 32, 110, 111, 119, 104, 101, 114, 101, 32, 112, 97, 103, 101, 115, 32, 112, 114, 105, 99, 101, 32, 119, 101, 101, 107, 32, 118, 111, 108, 117, 109, 101, 115, 32, 121, 101, 115, 32, 116, 97, 107, 101, 115, 32, 99, 111, 105, 110, 115, 32, 112, 97, 99, 101, 32, 115, 108, 105, 112, 115, 32, 102, 114, 111, 109, 32, 111, 102, 32, 105, 102, 32, 111, 114, 32, 97, 110, 100, 32, 110, 111, 116, 32]
def SCq (base q v : Nat) (U : State) (H : Heap) : Prop := vk_R "SafeVolumes$Tape" 56 WTX q U ∧ vk_S 1 [110] [WBY] (fun _ => q) (fun _ => v) (fun a => base ≤ a) U H ∧ va_Z "java/lang/String" "COMPACT_STRINGS" "Z" (.int 1) (fun a => base ≤ a) U H ∧ va_Zq "jdk/internal/util/Preconditions" "SIOOBE_FORMATTER" "Ljava/util/function/BiFunction;" (fun a => base ≤ a) U H
def SC (base : Nat) (U : State) : Prop := ∃ q v : Nat, SCq base q v U U.heap
theorem SC.moved {base : Nat} {s U : State} {locs : List Loc} (h : SC base s) (hW : s.WarmedH U.vm) (hS : va_S (fun q => base ≤ q) s.heap U.heap locs) : SC base U := by
  obtain ⟨q, v, h1, h2, h3, h4⟩ := h
  exact ⟨q, v, vk_R.warm hW h1, (h2.moved hW.alike).kept hS.2.1, (h3.moved hW.alike).kept hS.2.1, (h4.moved hW.alike).kept hS.2.1⟩
theorem SC.same {base : Nat} {s U : State} (h : SC base s) (hv : s.vm = U.vm) (hh : s.heap = U.heap) : SC base U := by
  obtain ⟨q, v, h1, h2, h3, h4⟩ := h
  have hA : s.vm.Alike U.vm := by rw [hv]; exact Vm.Alike.refl _
  rw [hh] at h2 h3 h4
  exact ⟨q, v, vk_R.same hv.symm h1, h2.moved hA, h3.moved hA, h4.moved hA⟩
/-! a method at work: all that stays -/
abbrev Kx : Type := (Program × Launch × Env × Room × State × MethodId × Array Value × List Frame × Method × Code) × (va_G × Tys × Nat × Nat × (Option Value → AH → State → Prop))
def V {β : Type} (κ : Kx) (φ : β → Option Value × AH) (k n pc : Nat) (L : List (Nat × Value)) (st : List Value) (h : AH) (F : Option β) : Prop :=
  match κ with
  | ((p, l, e, R, s, m, args, below, meth, c), (D, tys, base, nL, Q)) =>
    ∀ x, F = some x → ∀ (H : Heap) (locs : List Loc) (ls : Array Slot), HP D tys base h H → va_S (fun q => base ≤ q) s.heap H locs → lv_has ls nL L →
      W p l e R s m args below meth c H locs k n (Q (φ x).1 (φ x).2) (F0 m pc ls st)
def CX (κ : Kx) (own : String) (cc : ByteArray) : Prop :=
  match κ with
  | ((p, _, _, _, s, m, args, _, meth, c), (D, tys, base, nL, _)) =>
    p.tables.exec = Jvm.exec ∧ c.code = cc ∧ c.maxLocals = nL ∧ s.vm.findClass own = some m.cls ∧ (∀ w ∈ WT, w.before args s = true) ∧ va_K D vwCl tys s ∧ tys.map Prod.snd = TYL ∧ base ≤ s.heap.size ∧ meth.locks = false ∧ NW s ∧ SC base s
def RX (κ : Kx) (rm : Room) : Prop := κ.1.2.2.2.1 = rm
def Post (D : va_G) (tys : Tys) (base : Nat) (r : Option Value) (h' : AH) : Array Value → State → Outcome → State → Prop := fun _ st o t => (o = .returned r ∧ HP D tys base h' t.heap) ∧ va_F (fun q => base ≤ q) st t
def QX (κ : Kx) (rt : Option FieldType) (mc ms : Nat) : Prop :=
  match κ with
  | ((_, _, _, _, s, _, args, below, meth, _), (D, tys, base, _, Q)) => meth.sig.returnType = rt ∧ Q = fun r h' => MQ below (Post D tys base r h') args s mc ms (fun q => base ≤ q)
theorem v_none {β : Type} {κ : Kx} {φ : β → Option Value × AH} {k n pc : Nat} {L : List (Nat × Value)} {st : List Value} {h : AH} : V κ φ k n pc L st h none := by
  obtain ⟨⟨p, l, e, R, s, m, args, below, meth, c⟩, D, tys, base, nL, Q⟩ := κ
  intro x hx
  cases hx
theorem v_eq {β : Type} {κ : Kx} {φ : β → Option Value × AH} {k n pc : Nat} {L : List (Nat × Value)} {st : List Value} {h : AH} {F F' : Option β} (e : F = F') (kk : V κ φ k n pc L st h F') : V κ φ k n pc L st h F := e ▸ kk
theorem vl_tri (x y : Int64) : (y < x ∧ lg_cmp x y = 1) ∨ (x = y ∧ lg_cmp x y = 0) ∨ (x < y ∧ lg_cmp x y = -1) := by
  by_cases h1 : y < x
  · exact Or.inl ⟨h1, by simp [lg_cmp, h1]⟩
  · by_cases h2 : x = y
    · subst h2
      exact Or.inr (Or.inl ⟨rfl, by simp [lg_cmp]⟩)
    · refine Or.inr (Or.inr ⟨?_, by simp [lg_cmp, h1, h2]⟩)
      rw [Int64.lt_iff_toInt_lt] at h1 ⊢
      have : x.toInt ≠ y.toInt := fun e => h2 (Int64.toInt_inj.mp e)
      omega
theorem lcmp_eq (x y : Int64) : lg_cmp x y = 0 ↔ x = y := by
  rcases vl_tri x y with ⟨a, b⟩ | ⟨a, b⟩ | ⟨a, b⟩ <;> rw [b]
  · exact ⟨fun q => absurd q (by decide), fun q => by subst q; exact absurd a (by rw [Int64.lt_iff_toInt_lt]; omega)⟩
  · exact ⟨fun _ => a, fun _ => rfl⟩
  · exact ⟨fun q => absurd q (by decide), fun q => by subst q; exact absurd a (by rw [Int64.lt_iff_toInt_lt]; omega)⟩
theorem lcmp_ne (x y : Int64) : ¬ lg_cmp x y = 0 ↔ ¬ x = y := not_congr (lcmp_eq x y)
theorem lcmp_lt (x y : Int64) : lg_cmp x y < 0 ↔ x < y := by
  rcases vl_tri x y with ⟨a, b⟩ | ⟨a, b⟩ | ⟨a, b⟩ <;> rw [b] <;> rw [Int64.lt_iff_toInt_lt] at *
  · exact ⟨fun q => absurd q (by decide), fun q => by omega⟩
  · subst a; exact ⟨fun q => absurd q (by decide), fun q => by omega⟩
  · exact ⟨fun _ => a, fun _ => by decide⟩
theorem lcmp_ge (x y : Int64) : 0 ≤ lg_cmp x y ↔ y ≤ x := by
  rcases vl_tri x y with ⟨a, b⟩ | ⟨a, b⟩ | ⟨a, b⟩ <;> rw [b] <;> rw [Int64.le_iff_toInt_le] <;> try rw [Int64.lt_iff_toInt_lt] at a
  · exact ⟨fun _ => by omega, fun _ => by decide⟩
  · subst a; exact ⟨fun _ => by omega, fun _ => by decide⟩
  · exact ⟨fun q => absurd q (by decide), fun q => by omega⟩
theorem lcmp_gt (x y : Int64) : 0 < lg_cmp x y ↔ y < x := by
  rcases vl_tri x y with ⟨a, b⟩ | ⟨a, b⟩ | ⟨a, b⟩ <;> rw [b] <;> rw [Int64.lt_iff_toInt_lt] at *
  · exact ⟨fun _ => a, fun _ => by decide⟩
  · subst a; exact ⟨fun q => absurd q (by decide), fun q => by omega⟩
  · exact ⟨fun q => absurd q (by decide), fun q => by omega⟩
theorem lcmp_le (x y : Int64) : lg_cmp x y ≤ 0 ↔ x ≤ y := by
  rcases vl_tri x y with ⟨a, b⟩ | ⟨a, b⟩ | ⟨a, b⟩ <;> rw [b] <;> rw [Int64.le_iff_toInt_le] <;> try rw [Int64.lt_iff_toInt_lt] at a
  · exact ⟨fun q => absurd q (by decide), fun q => by omega⟩
  · subst a; exact ⟨fun _ => by omega, fun _ => by decide⟩
  · exact ⟨fun _ => by omega, fun _ => by decide⟩
theorem v_iadd {β : Type} {κ : Kx} {φ : β → Option Value × AH} {own : String} {cc : ByteArray} (hc : CX κ own cc) {k n pc : Nat} {L : List (Nat × Value)} {st : List Value} {h : AH} {F : Option β} {x y : Int32} (hd : decode cc pc = .ok (.iadd, 1)) (kk : V κ φ k n (pc + 1) L (.int (x + y) :: st) h F) : V κ φ k n pc L (.int y :: .int x :: st) h F := by
  obtain ⟨⟨p, l, e, R, s, m, args, below, meth, c⟩, D, tys, base, nL, Q⟩ := κ
  obtain ⟨hx, hb, hml, hown, hts, hK, hty, hbs, hlk, hNW, hSC⟩ := hc
  intro v hv H locs ls hP hS hl
  exact lv_iadd hx hb hd (kk v hv H locs ls hP hS hl)
theorem v_isub {β : Type} {κ : Kx} {φ : β → Option Value × AH} {own : String} {cc : ByteArray} (hc : CX κ own cc) {k n pc : Nat} {L : List (Nat × Value)} {st : List Value} {h : AH} {F : Option β} {x y : Int32} (hd : decode cc pc = .ok (.isub, 1)) (kk : V κ φ k n (pc + 1) L (.int (x - y) :: st) h F) : V κ φ k n pc L (.int y :: .int x :: st) h F := by
  obtain ⟨⟨p, l, e, R, s, m, args, below, meth, c⟩, D, tys, base, nL, Q⟩ := κ
  obtain ⟨hx, hb, hml, hown, hts, hK, hty, hbs, hlk, hNW, hSC⟩ := hc
  intro v hv H locs ls hP hS hl
  exact lv_isub hx hb hd (kk v hv H locs ls hP hS hl)
theorem v_imul {β : Type} {κ : Kx} {φ : β → Option Value × AH} {own : String} {cc : ByteArray} (hc : CX κ own cc) {k n pc : Nat} {L : List (Nat × Value)} {st : List Value} {h : AH} {F : Option β} {x y : Int32} (hd : decode cc pc = .ok (.imul, 1)) (kk : V κ φ k n (pc + 1) L (.int (x * y) :: st) h F) : V κ φ k n pc L (.int y :: .int x :: st) h F := by
  obtain ⟨⟨p, l, e, R, s, m, args, below, meth, c⟩, D, tys, base, nL, Q⟩ := κ
  obtain ⟨hx, hb, hml, hown, hts, hK, hty, hbs, hlk, hNW, hSC⟩ := hc
  intro v hv H locs ls hP hS hl
  exact lv_imul hx hb hd (kk v hv H locs ls hP hS hl)
theorem v_iand {β : Type} {κ : Kx} {φ : β → Option Value × AH} {own : String} {cc : ByteArray} (hc : CX κ own cc) {k n pc : Nat} {L : List (Nat × Value)} {st : List Value} {h : AH} {F : Option β} {x y : Int32} (hd : decode cc pc = .ok (.iand, 1)) (kk : V κ φ k n (pc + 1) L (.int (x &&& y) :: st) h F) : V κ φ k n pc L (.int y :: .int x :: st) h F := by
  obtain ⟨⟨p, l, e, R, s, m, args, below, meth, c⟩, D, tys, base, nL, Q⟩ := κ
  obtain ⟨hx, hb, hml, hown, hts, hK, hty, hbs, hlk, hNW, hSC⟩ := hc
  intro v hv H locs ls hP hS hl
  exact lv_iand hx hb hd (kk v hv H locs ls hP hS hl)
theorem v_ior {β : Type} {κ : Kx} {φ : β → Option Value × AH} {own : String} {cc : ByteArray} (hc : CX κ own cc) {k n pc : Nat} {L : List (Nat × Value)} {st : List Value} {h : AH} {F : Option β} {x y : Int32} (hd : decode cc pc = .ok (.ior, 1)) (kk : V κ φ k n (pc + 1) L (.int (x ||| y) :: st) h F) : V κ φ k n pc L (.int y :: .int x :: st) h F := by
  obtain ⟨⟨p, l, e, R, s, m, args, below, meth, c⟩, D, tys, base, nL, Q⟩ := κ
  obtain ⟨hx, hb, hml, hown, hts, hK, hty, hbs, hlk, hNW, hSC⟩ := hc
  intro v hv H locs ls hP hS hl
  exact lv_ior hx hb hd (kk v hv H locs ls hP hS hl)
theorem v_ixor {β : Type} {κ : Kx} {φ : β → Option Value × AH} {own : String} {cc : ByteArray} (hc : CX κ own cc) {k n pc : Nat} {L : List (Nat × Value)} {st : List Value} {h : AH} {F : Option β} {x y : Int32} (hd : decode cc pc = .ok (.ixor, 1)) (kk : V κ φ k n (pc + 1) L (.int (x ^^^ y) :: st) h F) : V κ φ k n pc L (.int y :: .int x :: st) h F := by
  obtain ⟨⟨p, l, e, R, s, m, args, below, meth, c⟩, D, tys, base, nL, Q⟩ := κ
  obtain ⟨hx, hb, hml, hown, hts, hK, hty, hbs, hlk, hNW, hSC⟩ := hc
  intro v hv H locs ls hP hS hl
  exact lv_ixor hx hb hd (kk v hv H locs ls hP hS hl)
theorem v_ishl {β : Type} {κ : Kx} {φ : β → Option Value × AH} {own : String} {cc : ByteArray} (hc : CX κ own cc) {k n pc : Nat} {L : List (Nat × Value)} {st : List Value} {h : AH} {F : Option β} {x y : Int32} (hd : decode cc pc = .ok (.ishl, 1)) (kk : V κ φ k n (pc + 1) L (.int (x <<< (y &&& 31)) :: st) h F) : V κ φ k n pc L (.int y :: .int x :: st) h F := by
  obtain ⟨⟨p, l, e, R, s, m, args, below, meth, c⟩, D, tys, base, nL, Q⟩ := κ
  obtain ⟨hx, hb, hml, hown, hts, hK, hty, hbs, hlk, hNW, hSC⟩ := hc
  intro v hv H locs ls hP hS hl
  exact lv_ishl hx hb hd (kk v hv H locs ls hP hS hl)
theorem v_ishr {β : Type} {κ : Kx} {φ : β → Option Value × AH} {own : String} {cc : ByteArray} (hc : CX κ own cc) {k n pc : Nat} {L : List (Nat × Value)} {st : List Value} {h : AH} {F : Option β} {x y : Int32} (hd : decode cc pc = .ok (.ishr, 1)) (kk : V κ φ k n (pc + 1) L (.int (x >>> (y &&& 31)) :: st) h F) : V κ φ k n pc L (.int y :: .int x :: st) h F := by
  obtain ⟨⟨p, l, e, R, s, m, args, below, meth, c⟩, D, tys, base, nL, Q⟩ := κ
  obtain ⟨hx, hb, hml, hown, hts, hK, hty, hbs, hlk, hNW, hSC⟩ := hc
  intro v hv H locs ls hP hS hl
  exact lv_ishr hx hb hd (kk v hv H locs ls hP hS hl)
theorem v_ladd {β : Type} {κ : Kx} {φ : β → Option Value × AH} {own : String} {cc : ByteArray} (hc : CX κ own cc) {k n pc : Nat} {L : List (Nat × Value)} {st : List Value} {h : AH} {F : Option β} {x y : Int64} (hd : decode cc pc = .ok (.ladd, 1)) (kk : V κ φ k n (pc + 1) L (.long (x + y) :: st) h F) : V κ φ k n pc L (.long y :: .long x :: st) h F := by
  obtain ⟨⟨p, l, e, R, s, m, args, below, meth, c⟩, D, tys, base, nL, Q⟩ := κ
  obtain ⟨hx, hb, hml, hown, hts, hK, hty, hbs, hlk, hNW, hSC⟩ := hc
  intro v hv H locs ls hP hS hl
  exact lv_ladd hx hb hd (kk v hv H locs ls hP hS hl)
theorem v_lsub {β : Type} {κ : Kx} {φ : β → Option Value × AH} {own : String} {cc : ByteArray} (hc : CX κ own cc) {k n pc : Nat} {L : List (Nat × Value)} {st : List Value} {h : AH} {F : Option β} {x y : Int64} (hd : decode cc pc = .ok (.lsub, 1)) (kk : V κ φ k n (pc + 1) L (.long (x - y) :: st) h F) : V κ φ k n pc L (.long y :: .long x :: st) h F := by
  obtain ⟨⟨p, l, e, R, s, m, args, below, meth, c⟩, D, tys, base, nL, Q⟩ := κ
  obtain ⟨hx, hb, hml, hown, hts, hK, hty, hbs, hlk, hNW, hSC⟩ := hc
  intro v hv H locs ls hP hS hl
  exact lv_lsub hx hb hd (kk v hv H locs ls hP hS hl)
theorem v_lmul {β : Type} {κ : Kx} {φ : β → Option Value × AH} {own : String} {cc : ByteArray} (hc : CX κ own cc) {k n pc : Nat} {L : List (Nat × Value)} {st : List Value} {h : AH} {F : Option β} {x y : Int64} (hd : decode cc pc = .ok (.lmul, 1)) (kk : V κ φ k n (pc + 1) L (.long (x * y) :: st) h F) : V κ φ k n pc L (.long y :: .long x :: st) h F := by
  obtain ⟨⟨p, l, e, R, s, m, args, below, meth, c⟩, D, tys, base, nL, Q⟩ := κ
  obtain ⟨hx, hb, hml, hown, hts, hK, hty, hbs, hlk, hNW, hSC⟩ := hc
  intro v hv H locs ls hP hS hl
  exact lv_lmul hx hb hd (kk v hv H locs ls hP hS hl)
theorem v_land {β : Type} {κ : Kx} {φ : β → Option Value × AH} {own : String} {cc : ByteArray} (hc : CX κ own cc) {k n pc : Nat} {L : List (Nat × Value)} {st : List Value} {h : AH} {F : Option β} {x y : Int64} (hd : decode cc pc = .ok (.land, 1)) (kk : V κ φ k n (pc + 1) L (.long (x &&& y) :: st) h F) : V κ φ k n pc L (.long y :: .long x :: st) h F := by
  obtain ⟨⟨p, l, e, R, s, m, args, below, meth, c⟩, D, tys, base, nL, Q⟩ := κ
  obtain ⟨hx, hb, hml, hown, hts, hK, hty, hbs, hlk, hNW, hSC⟩ := hc
  intro v hv H locs ls hP hS hl
  exact lv_land hx hb hd (kk v hv H locs ls hP hS hl)
theorem v_lor {β : Type} {κ : Kx} {φ : β → Option Value × AH} {own : String} {cc : ByteArray} (hc : CX κ own cc) {k n pc : Nat} {L : List (Nat × Value)} {st : List Value} {h : AH} {F : Option β} {x y : Int64} (hd : decode cc pc = .ok (.lor, 1)) (kk : V κ φ k n (pc + 1) L (.long (x ||| y) :: st) h F) : V κ φ k n pc L (.long y :: .long x :: st) h F := by
  obtain ⟨⟨p, l, e, R, s, m, args, below, meth, c⟩, D, tys, base, nL, Q⟩ := κ
  obtain ⟨hx, hb, hml, hown, hts, hK, hty, hbs, hlk, hNW, hSC⟩ := hc
  intro v hv H locs ls hP hS hl
  exact lv_lor hx hb hd (kk v hv H locs ls hP hS hl)
theorem v_ineg {β : Type} {κ : Kx} {φ : β → Option Value × AH} {own : String} {cc : ByteArray} (hc : CX κ own cc) {k n pc : Nat} {L : List (Nat × Value)} {st : List Value} {h : AH} {F : Option β} {x : Int32} (hd : decode cc pc = .ok (.ineg, 1)) (kk : V κ φ k n (pc + 1) L (.int (-x) :: st) h F) : V κ φ k n pc L (.int x :: st) h F := by
  obtain ⟨⟨p, l, e, R, s, m, args, below, meth, c⟩, D, tys, base, nL, Q⟩ := κ
  obtain ⟨hx, hb, hml, hown, hts, hK, hty, hbs, hlk, hNW, hSC⟩ := hc
  intro v hv H locs ls hP hS hl
  exact lv_ineg hx hb hd (kk v hv H locs ls hP hS hl)
theorem v_lshl {β : Type} {κ : Kx} {φ : β → Option Value × AH} {own : String} {cc : ByteArray} (hc : CX κ own cc) {k n pc : Nat} {L : List (Nat × Value)} {st : List Value} {h : AH} {F : Option β} {x : Int64} {y : Int32} (hd : decode cc pc = .ok (.lshl, 1)) (kk : V κ φ k n (pc + 1) L (.long (x <<< (y.toInt64 &&& 63)) :: st) h F) : V κ φ k n pc L (.int y :: .long x :: st) h F := by
  obtain ⟨⟨p, l, e, R, s, m, args, below, meth, c⟩, D, tys, base, nL, Q⟩ := κ
  obtain ⟨hx, hb, hml, hown, hts, hK, hty, hbs, hlk, hNW, hSC⟩ := hc
  intro v hv H locs ls hP hS hl
  exact lv_lshl hx hb hd rfl (kk v hv H locs ls hP hS hl)
theorem v_iushr {β : Type} {κ : Kx} {φ : β → Option Value × AH} {own : String} {cc : ByteArray} (hc : CX κ own cc) {k n pc : Nat} {L : List (Nat × Value)} {st : List Value} {h : AH} {F : Option β} {x y : Int32} (hd : decode cc pc = .ok (.iushr, 1)) (kk : V κ φ k n (pc + 1) L (.int ((x.toUInt32 >>> (y.toUInt32 &&& Int32.toUInt32 31)).toInt32) :: st) h F) : V κ φ k n pc L (.int y :: .int x :: st) h F := by
  obtain ⟨⟨p, l, e, R, s, m, args, below, meth, c⟩, D, tys, base, nL, Q⟩ := κ
  obtain ⟨hx, hb, hml, hown, hts, hK, hty, hbs, hlk, hNW, hSC⟩ := hc
  intro v hv H locs ls hP hS hl
  exact lv_iushr hx hb hd rfl (kk v hv H locs ls hP hS hl)
theorem v_i2l {β : Type} {κ : Kx} {φ : β → Option Value × AH} {own : String} {cc : ByteArray} (hc : CX κ own cc) {k n pc : Nat} {L : List (Nat × Value)} {st : List Value} {h : AH} {F : Option β} {x : Int32} (hd : decode cc pc = .ok (.i2l, 1)) (kk : V κ φ k n (pc + 1) L (.long x.toInt64 :: st) h F) : V κ φ k n pc L (.int x :: st) h F := by
  obtain ⟨⟨p, l, e, R, s, m, args, below, meth, c⟩, D, tys, base, nL, Q⟩ := κ
  obtain ⟨hx, hb, hml, hown, hts, hK, hty, hbs, hlk, hNW, hSC⟩ := hc
  intro v hv H locs ls hP hS hl
  exact lv_i2l hx hb hd rfl (kk v hv H locs ls hP hS hl)
theorem v_l2i {β : Type} {κ : Kx} {φ : β → Option Value × AH} {own : String} {cc : ByteArray} (hc : CX κ own cc) {k n pc : Nat} {L : List (Nat × Value)} {st : List Value} {h : AH} {F : Option β} {x : Int64} (hd : decode cc pc = .ok (.l2i, 1)) (kk : V κ φ k n (pc + 1) L (.int x.toInt32 :: st) h F) : V κ φ k n pc L (.long x :: st) h F := by
  obtain ⟨⟨p, l, e, R, s, m, args, below, meth, c⟩, D, tys, base, nL, Q⟩ := κ
  obtain ⟨hx, hb, hml, hown, hts, hK, hty, hbs, hlk, hNW, hSC⟩ := hc
  intro v hv H locs ls hP hS hl
  exact lv_l2i hx hb hd rfl (kk v hv H locs ls hP hS hl)
theorem v_i2b {β : Type} {κ : Kx} {φ : β → Option Value × AH} {own : String} {cc : ByteArray} (hc : CX κ own cc) {k n pc : Nat} {L : List (Nat × Value)} {st : List Value} {h : AH} {F : Option β} {x : Int32} (hd : decode cc pc = .ok (.i2b, 1)) (kk : V κ φ k n (pc + 1) L (.int x.toInt8.toInt32 :: st) h F) : V κ φ k n pc L (.int x :: st) h F := by
  obtain ⟨⟨p, l, e, R, s, m, args, below, meth, c⟩, D, tys, base, nL, Q⟩ := κ
  obtain ⟨hx, hb, hml, hown, hts, hK, hty, hbs, hlk, hNW, hSC⟩ := hc
  intro v hv H locs ls hP hS hl
  exact lv_i2b hx hb hd rfl (kk v hv H locs ls hP hS hl)
theorem v_idiv {β : Type} {κ : Kx} {φ : β → Option Value × AH} {own : String} {cc : ByteArray} (hc : CX κ own cc) {k n pc : Nat} {L : List (Nat × Value)} {st : List Value} {h : AH} {x y : Int32} {K : Int32 → Option β} (hd : decode cc pc = .ok (.idiv, 1)) (kk : V κ φ k n (pc + 1) L (.int (x / y) :: st) h (K (x / y))) : V κ φ k n pc L (.int y :: .int x :: st) h (if y = 0 then none else K (x / y)) := by
  obtain ⟨⟨p, l, e, R, s, m, args, below, meth, c⟩, D, tys, base, nL, Q⟩ := κ
  obtain ⟨hx, hb, hml, hown, hts, hK, hty, hbs, hlk, hNW, hSC⟩ := hc
  intro v hv H locs ls hP hS hl
  split at hv
  · cases hv
  · rename_i h0
    exact lv_idiv hx hb hd h0 (kk v hv H locs ls hP hS hl)
theorem v_irem {β : Type} {κ : Kx} {φ : β → Option Value × AH} {own : String} {cc : ByteArray} (hc : CX κ own cc) {k n pc : Nat} {L : List (Nat × Value)} {st : List Value} {h : AH} {x y : Int32} {K : Int32 → Option β} (hd : decode cc pc = .ok (.irem, 1)) (kk : V κ φ k n (pc + 1) L (.int (x - x / y * y) :: st) h (K (x - x / y * y))) : V κ φ k n pc L (.int y :: .int x :: st) h (if y = 0 then none else K (x - x / y * y)) := by
  obtain ⟨⟨p, l, e, R, s, m, args, below, meth, c⟩, D, tys, base, nL, Q⟩ := κ
  obtain ⟨hx, hb, hml, hown, hts, hK, hty, hbs, hlk, hNW, hSC⟩ := hc
  intro v hv H locs ls hP hS hl
  split at hv
  · cases hv
  · rename_i h0
    exact lv_irem hx hb hd h0 (kk v hv H locs ls hP hS hl)
theorem v_ldiv {β : Type} {κ : Kx} {φ : β → Option Value × AH} {own : String} {cc : ByteArray} (hc : CX κ own cc) {k n pc : Nat} {L : List (Nat × Value)} {st : List Value} {h : AH} {x y : Int64} {K : Int64 → Option β} (hd : decode cc pc = .ok (.ldiv, 1)) (kk : V κ φ k n (pc + 1) L (.long (x / y) :: st) h (K (x / y))) : V κ φ k n pc L (.long y :: .long x :: st) h (if y = 0 then none else K (x / y)) := by
  obtain ⟨⟨p, l, e, R, s, m, args, below, meth, c⟩, D, tys, base, nL, Q⟩ := κ
  obtain ⟨hx, hb, hml, hown, hts, hK, hty, hbs, hlk, hNW, hSC⟩ := hc
  intro v hv H locs ls hP hS hl
  split at hv
  · cases hv
  · rename_i h0
    exact lv_ldiv hx hb hd h0 (kk v hv H locs ls hP hS hl)
theorem v_lrem {β : Type} {κ : Kx} {φ : β → Option Value × AH} {own : String} {cc : ByteArray} (hc : CX κ own cc) {k n pc : Nat} {L : List (Nat × Value)} {st : List Value} {h : AH} {x y : Int64} {K : Int64 → Option β} (hd : decode cc pc = .ok (.lrem, 1)) (kk : V κ φ k n (pc + 1) L (.long (x - x / y * y) :: st) h (K (x - x / y * y))) : V κ φ k n pc L (.long y :: .long x :: st) h (if y = 0 then none else K (x - x / y * y)) := by
  obtain ⟨⟨p, l, e, R, s, m, args, below, meth, c⟩, D, tys, base, nL, Q⟩ := κ
  obtain ⟨hx, hb, hml, hown, hts, hK, hty, hbs, hlk, hNW, hSC⟩ := hc
  intro v hv H locs ls hP hS hl
  split at hv
  · cases hv
  · rename_i h0
    exact lv_lrem hx hb hd h0 (kk v hv H locs ls hP hS hl)
theorem v_iconst {β : Type} {κ : Kx} {φ : β → Option Value × AH} {own : String} {cc : ByteArray} (hc : CX κ own cc) {k n pc : Nat} {L : List (Nat × Value)} {st : List Value} {h : AH} {F : Option β} {z : Int} {x : Int32} (hd : decode cc pc = .ok (.iconst z, 1)) (hz : Int32.ofInt z = x) (kk : V κ φ k n (pc + 1) L (.int x :: st) h F) : V κ φ k n pc L st h F := by
  obtain ⟨⟨p, l, e, R, s, m, args, below, meth, c⟩, D, tys, base, nL, Q⟩ := κ
  obtain ⟨hx, hb, hml, hown, hts, hK, hty, hbs, hlk, hNW, hSC⟩ := hc
  intro v hv H locs ls hP hS hl
  exact lv_iconst hx hb hd hz (kk v hv H locs ls hP hS hl)
theorem v_bipush {β : Type} {κ : Kx} {φ : β → Option Value × AH} {own : String} {cc : ByteArray} (hc : CX κ own cc) {k n pc : Nat} {L : List (Nat × Value)} {st : List Value} {h : AH} {F : Option β} {z : Int} {x : Int32} (hd : decode cc pc = .ok (.bipush z, 2)) (hz : (Int8.ofInt z).toInt32 = x) (kk : V κ φ k n (pc + 2) L (.int x :: st) h F) : V κ φ k n pc L st h F := by
  obtain ⟨⟨p, l, e, R, s, m, args, below, meth, c⟩, D, tys, base, nL, Q⟩ := κ
  obtain ⟨hx, hb, hml, hown, hts, hK, hty, hbs, hlk, hNW, hSC⟩ := hc
  intro v hv H locs ls hP hS hl
  exact lv_bipush hx hb hd hz (kk v hv H locs ls hP hS hl)
theorem v_sipush {β : Type} {κ : Kx} {φ : β → Option Value × AH} {own : String} {cc : ByteArray} (hc : CX κ own cc) {k n pc : Nat} {L : List (Nat × Value)} {st : List Value} {h : AH} {F : Option β} {z : Int} {x : Int32} (hd : decode cc pc = .ok (.sipush z, 3)) (hz : (Int16.ofInt z).toInt32 = x) (kk : V κ φ k n (pc + 3) L (.int x :: st) h F) : V κ φ k n pc L st h F := by
  obtain ⟨⟨p, l, e, R, s, m, args, below, meth, c⟩, D, tys, base, nL, Q⟩ := κ
  obtain ⟨hx, hb, hml, hown, hts, hK, hty, hbs, hlk, hNW, hSC⟩ := hc
  intro v hv H locs ls hP hS hl
  exact lv_sipush hx hb hd hz (kk v hv H locs ls hP hS hl)
theorem v_lconst {β : Type} {κ : Kx} {φ : β → Option Value × AH} {own : String} {cc : ByteArray} (hc : CX κ own cc) {k n pc : Nat} {L : List (Nat × Value)} {st : List Value} {h : AH} {F : Option β} {z : Fin 2} {x : Int64} (hd : decode cc pc = .ok (.lconst z, 1)) (hz : Int64.ofNat (z : Nat) = x) (kk : V κ φ k n (pc + 1) L (.long x :: st) h F) : V κ φ k n pc L st h F := by
  obtain ⟨⟨p, l, e, R, s, m, args, below, meth, c⟩, D, tys, base, nL, Q⟩ := κ
  obtain ⟨hx, hb, hml, hown, hts, hK, hty, hbs, hlk, hNW, hSC⟩ := hc
  intro v hv H locs ls hP hS hl
  exact lv_lconst hx hb hd hz (kk v hv H locs ls hP hS hl)
theorem v_null {β : Type} {κ : Kx} {φ : β → Option Value × AH} {own : String} {cc : ByteArray} (hc : CX κ own cc) {k n pc : Nat} {L : List (Nat × Value)} {st : List Value} {h : AH} {F : Option β} (hd : decode cc pc = .ok (.aconst_null, 1)) (kk : V κ φ k n (pc + 1) L (.null :: st) h F) : V κ φ k n pc L st h F := by
  obtain ⟨⟨p, l, e, R, s, m, args, below, meth, c⟩, D, tys, base, nL, Q⟩ := κ
  obtain ⟨hx, hb, hml, hown, hts, hK, hty, hbs, hlk, hNW, hSC⟩ := hc
  intro v hv H locs ls hP hS hl
  exact lv_null hx hb hd (kk v hv H locs ls hP hS hl)
theorem v_ldc {β : Type} {κ : Kx} {φ : β → Option Value × AH} {own : String} {cc : ByteArray} (hc : CX κ own cc) {k n pc : Nat} {L : List (Nat × Value)} {st : List Value} {h : AH} {F : Option β} {x : Int32} {z : Nat} (hw : Cond.constant own z x ∈ WT) (hd : decode cc pc = .ok (.ldc z, 2)) (kk : V κ φ k n (pc + 2) L (.int x :: st) h F) : V κ φ k n pc L st h F := by
  obtain ⟨⟨p, l, e, R, s, m, args, below, meth, c⟩, D, tys, base, nL, Q⟩ := κ
  obtain ⟨hx, hb, hml, hown, hts, hK, hty, hbs, hlk, hNW, hSC⟩ := hc
  intro v hv H locs ls hP hS hl
  exact lv_ldc hx hb hown (hts _ hw) hd (kk v hv H locs ls hP hS hl)
theorem v_ldcw {β : Type} {κ : Kx} {φ : β → Option Value × AH} {own : String} {cc : ByteArray} (hc : CX κ own cc) {k n pc : Nat} {L : List (Nat × Value)} {st : List Value} {h : AH} {F : Option β} {x : Int32} {z : Nat} (hw : Cond.constant own z x ∈ WT) (hd : decode cc pc = .ok (.ldc_w z, 3)) (kk : V κ φ k n (pc + 3) L (.int x :: st) h F) : V κ φ k n pc L st h F := by
  obtain ⟨⟨p, l, e, R, s, m, args, below, meth, c⟩, D, tys, base, nL, Q⟩ := κ
  obtain ⟨hx, hb, hml, hown, hts, hK, hty, hbs, hlk, hNW, hSC⟩ := hc
  intro v hv H locs ls hP hS hl
  exact lv_ldcw hx hb hown (hts _ hw) hd (kk v hv H locs ls hP hS hl)
theorem v_ldc2 {β : Type} {κ : Kx} {φ : β → Option Value × AH} {own : String} {cc : ByteArray} (hc : CX κ own cc) {k n pc : Nat} {L : List (Nat × Value)} {st : List Value} {h : AH} {F : Option β} {x : Int64} {z : Nat} (hw : Cond.constantLong own z x ∈ WT) (hd : decode cc pc = .ok (.ldc2_w z, 3)) (kk : V κ φ k n (pc + 3) L (.long x :: st) h F) : V κ φ k n pc L st h F := by
  obtain ⟨⟨p, l, e, R, s, m, args, below, meth, c⟩, D, tys, base, nL, Q⟩ := κ
  obtain ⟨hx, hb, hml, hown, hts, hK, hty, hbs, hlk, hNW, hSC⟩ := hc
  intro v hv H locs ls hP hS hl
  exact lv_ldc2 hx hb hown (hts _ hw) hd (kk v hv H locs ls hP hS hl)
theorem v_iload_n {β : Type} {κ : Kx} {φ : β → Option Value × AH} {own : String} {cc : ByteArray} (hc : CX κ own cc) {k n pc : Nat} {L : List (Nat × Value)} {st : List Value} {h : AH} {F : Option β} {z : Fin 4} {i : Nat} {x : Int32} (j : Nat) (hk : L[j]? = some (i, .int x)) (hd : decode cc pc = .ok (.iload_n z, 1)) (hi : (z : Nat) = i) (kk : V κ φ k n (pc + 1) L (.int x :: st) h F) : V κ φ k n pc L st h F := by
  obtain ⟨⟨p, l, e, R, s, m, args, below, meth, c⟩, D, tys, base, nL, Q⟩ := κ
  obtain ⟨hx, hb, hml, hown, hts, hK, hty, hbs, hlk, hNW, hSC⟩ := hc
  intro v hv H locs ls hP hS hl
  exact lv_iload_n hx hb hd hi (lv_at hl j hk) (kk v hv H locs ls hP hS hl)
theorem v_iload {β : Type} {κ : Kx} {φ : β → Option Value × AH} {own : String} {cc : ByteArray} (hc : CX κ own cc) {k n pc : Nat} {L : List (Nat × Value)} {st : List Value} {h : AH} {F : Option β} {i : Nat} {x : Int32} (j : Nat) (hk : L[j]? = some (i, .int x)) (hd : decode cc pc = .ok (.iload i, 2)) (kk : V κ φ k n (pc + 2) L (.int x :: st) h F) : V κ φ k n pc L st h F := by
  obtain ⟨⟨p, l, e, R, s, m, args, below, meth, c⟩, D, tys, base, nL, Q⟩ := κ
  obtain ⟨hx, hb, hml, hown, hts, hK, hty, hbs, hlk, hNW, hSC⟩ := hc
  intro v hv H locs ls hP hS hl
  exact lv_iload hx hb hd (lv_at hl j hk) (kk v hv H locs ls hP hS hl)
theorem v_lload_n {β : Type} {κ : Kx} {φ : β → Option Value × AH} {own : String} {cc : ByteArray} (hc : CX κ own cc) {k n pc : Nat} {L : List (Nat × Value)} {st : List Value} {h : AH} {F : Option β} {z : Fin 4} {i : Nat} {x : Int64} (j : Nat) (hk : L[j]? = some (i, .long x)) (hd : decode cc pc = .ok (.lload_n z, 1)) (hi : (z : Nat) = i) (kk : V κ φ k n (pc + 1) L (.long x :: st) h F) : V κ φ k n pc L st h F := by
  obtain ⟨⟨p, l, e, R, s, m, args, below, meth, c⟩, D, tys, base, nL, Q⟩ := κ
  obtain ⟨hx, hb, hml, hown, hts, hK, hty, hbs, hlk, hNW, hSC⟩ := hc
  intro v hv H locs ls hP hS hl
  exact lv_lload_n hx hb hd hi (lv_at hl j hk) (kk v hv H locs ls hP hS hl)
theorem v_lload {β : Type} {κ : Kx} {φ : β → Option Value × AH} {own : String} {cc : ByteArray} (hc : CX κ own cc) {k n pc : Nat} {L : List (Nat × Value)} {st : List Value} {h : AH} {F : Option β} {i : Nat} {x : Int64} (j : Nat) (hk : L[j]? = some (i, .long x)) (hd : decode cc pc = .ok (.lload i, 2)) (kk : V κ φ k n (pc + 2) L (.long x :: st) h F) : V κ φ k n pc L st h F := by
  obtain ⟨⟨p, l, e, R, s, m, args, below, meth, c⟩, D, tys, base, nL, Q⟩ := κ
  obtain ⟨hx, hb, hml, hown, hts, hK, hty, hbs, hlk, hNW, hSC⟩ := hc
  intro v hv H locs ls hP hS hl
  exact lv_lload hx hb hd (lv_at hl j hk) (kk v hv H locs ls hP hS hl)
theorem v_aload_n {β : Type} {κ : Kx} {φ : β → Option Value × AH} {own : String} {cc : ByteArray} (hc : CX κ own cc) {k n pc : Nat} {L : List (Nat × Value)} {st : List Value} {h : AH} {F : Option β} {z : Fin 4} {i : Nat} {x : Nat} (j : Nat) (hk : L[j]? = some (i, .ref x)) (hd : decode cc pc = .ok (.aload_n z, 1)) (hi : (z : Nat) = i) (kk : V κ φ k n (pc + 1) L (.ref x :: st) h F) : V κ φ k n pc L st h F := by
  obtain ⟨⟨p, l, e, R, s, m, args, below, meth, c⟩, D, tys, base, nL, Q⟩ := κ
  obtain ⟨hx, hb, hml, hown, hts, hK, hty, hbs, hlk, hNW, hSC⟩ := hc
  intro v hv H locs ls hP hS hl
  exact lv_aload_n hx hb hd hi (lv_at hl j hk) (kk v hv H locs ls hP hS hl)
theorem v_aload {β : Type} {κ : Kx} {φ : β → Option Value × AH} {own : String} {cc : ByteArray} (hc : CX κ own cc) {k n pc : Nat} {L : List (Nat × Value)} {st : List Value} {h : AH} {F : Option β} {i : Nat} {x : Nat} (j : Nat) (hk : L[j]? = some (i, .ref x)) (hd : decode cc pc = .ok (.aload i, 2)) (kk : V κ φ k n (pc + 2) L (.ref x :: st) h F) : V κ φ k n pc L st h F := by
  obtain ⟨⟨p, l, e, R, s, m, args, below, meth, c⟩, D, tys, base, nL, Q⟩ := κ
  obtain ⟨hx, hb, hml, hown, hts, hK, hty, hbs, hlk, hNW, hSC⟩ := hc
  intro v hv H locs ls hP hS hl
  exact lv_aload hx hb hd (lv_at hl j hk) (kk v hv H locs ls hP hS hl)
theorem v_aloadq_n {β : Type} {κ : Kx} {φ : β → Option Value × AH} {own : String} {cc : ByteArray} (hc : CX κ own cc) {k n pc : Nat} {L : List (Nat × Value)} {st : List Value} {h : AH} {F : Option β} {z : Fin 4} {i : Nat} {x : Option Nat} (j : Nat) (hk : L[j]? = some (i, va_rf x)) (hd : decode cc pc = .ok (.aload_n z, 1)) (hi : (z : Nat) = i) (kk : V κ φ k n (pc + 1) L (va_rf x :: st) h F) : V κ φ k n pc L st h F := by
  obtain ⟨⟨p, l, e, R, s, m, args, below, meth, c⟩, D, tys, base, nL, Q⟩ := κ
  obtain ⟨hx, hb, hml, hown, hts, hK, hty, hbs, hlk, hNW, hSC⟩ := hc
  intro v hv H locs ls hP hS hl
  cases x with
  | none => exact lv_aload_nN hx hb hd hi (lv_at hl j hk) (kk v hv H locs ls hP hS hl)
  | some a => exact lv_aload_n hx hb hd hi (lv_at hl j hk) (kk v hv H locs ls hP hS hl)
theorem v_aloadq {β : Type} {κ : Kx} {φ : β → Option Value × AH} {own : String} {cc : ByteArray} (hc : CX κ own cc) {k n pc : Nat} {L : List (Nat × Value)} {st : List Value} {h : AH} {F : Option β} {i : Nat} {x : Option Nat} (j : Nat) (hk : L[j]? = some (i, va_rf x)) (hd : decode cc pc = .ok (.aload i, 2)) (kk : V κ φ k n (pc + 2) L (va_rf x :: st) h F) : V κ φ k n pc L st h F := by
  obtain ⟨⟨p, l, e, R, s, m, args, below, meth, c⟩, D, tys, base, nL, Q⟩ := κ
  obtain ⟨hx, hb, hml, hown, hts, hK, hty, hbs, hlk, hNW, hSC⟩ := hc
  intro v hv H locs ls hP hS hl
  cases x with
  | none => exact lv_aloadN hx hb hd (lv_at hl j hk) (kk v hv H locs ls hP hS hl)
  | some a => exact lv_aload hx hb hd (lv_at hl j hk) (kk v hv H locs ls hP hS hl)
theorem v_istore_n {β : Type} {κ : Kx} {φ : β → Option Value × AH} {own : String} {cc : ByteArray} (hc : CX κ own cc) {k n pc : Nat} {L : List (Nat × Value)} {st : List Value} {h : AH} {F : Option β} {z : Fin 4} {i : Nat} {x : Int32} {L' : List (Nat × Value)} (hd : decode cc pc = .ok (.istore_n z, 1)) (hi : (z : Nat) = i) (hn : i < κ.2.2.2.2.1) (he : (i, (.int x : Value)) :: L.filter (fun q => !(q.1 == i) && !(q.1 + 1 == i && q.2.category == 2)) = L') (kk : V κ φ k n (pc + 1) L' st h F) : V κ φ k n pc L (.int x :: st) h F := by
  obtain ⟨⟨p, l, e, R, s, m, args, below, meth, c⟩, D, tys, base, nL, Q⟩ := κ
  obtain ⟨hx, hb, hml, hown, hts, hK, hty, hbs, hlk, hNW, hSC⟩ := hc
  intro v hv H locs ls hP hS hl
  exact lv_istore_n hx hb hd hi hl hn he (fun ls hl => kk v hv H locs ls hP hS hl)
theorem v_lstore_n {β : Type} {κ : Kx} {φ : β → Option Value × AH} {own : String} {cc : ByteArray} (hc : CX κ own cc) {k n pc : Nat} {L : List (Nat × Value)} {st : List Value} {h : AH} {F : Option β} {z : Fin 4} {i : Nat} {x : Int64} {L' : List (Nat × Value)} (hd : decode cc pc = .ok (.lstore_n z, 1)) (hi : (z : Nat) = i) (hn : i + 1 < κ.2.2.2.2.1) (he : (i, (.long x : Value)) :: L.filter (fun q => !(q.1 == i) && (!(q.1 == i + 1) && !(q.1 + 1 == i && q.2.category == 2))) = L') (kk : V κ φ k n (pc + 1) L' st h F) : V κ φ k n pc L (.long x :: st) h F := by
  obtain ⟨⟨p, l, e, R, s, m, args, below, meth, c⟩, D, tys, base, nL, Q⟩ := κ
  obtain ⟨hx, hb, hml, hown, hts, hK, hty, hbs, hlk, hNW, hSC⟩ := hc
  intro v hv H locs ls hP hS hl
  exact lv_lstore_n hx hb hd hi hl hn he (fun ls hl => kk v hv H locs ls hP hS hl)
theorem v_astore_n {β : Type} {κ : Kx} {φ : β → Option Value × AH} {own : String} {cc : ByteArray} (hc : CX κ own cc) {k n pc : Nat} {L : List (Nat × Value)} {st : List Value} {h : AH} {F : Option β} {z : Fin 4} {i : Nat} {x : Nat} {L' : List (Nat × Value)} (hd : decode cc pc = .ok (.astore_n z, 1)) (hi : (z : Nat) = i) (hn : i < κ.2.2.2.2.1) (he : (i, (.ref x : Value)) :: L.filter (fun q => !(q.1 == i) && !(q.1 + 1 == i && q.2.category == 2)) = L') (kk : V κ φ k n (pc + 1) L' st h F) : V κ φ k n pc L (.ref x :: st) h F := by
  obtain ⟨⟨p, l, e, R, s, m, args, below, meth, c⟩, D, tys, base, nL, Q⟩ := κ
  obtain ⟨hx, hb, hml, hown, hts, hK, hty, hbs, hlk, hNW, hSC⟩ := hc
  intro v hv H locs ls hP hS hl
  exact lv_astore_n hx hb hd hi hl hn he (fun ls hl => kk v hv H locs ls hP hS hl)
theorem v_istore {β : Type} {κ : Kx} {φ : β → Option Value × AH} {own : String} {cc : ByteArray} (hc : CX κ own cc) {k n pc : Nat} {L : List (Nat × Value)} {st : List Value} {h : AH} {F : Option β} {i : Nat} {x : Int32} {L' : List (Nat × Value)} (hd : decode cc pc = .ok (.istore i, 2)) (hn : i < κ.2.2.2.2.1) (he : (i, (.int x : Value)) :: L.filter (fun q => !(q.1 == i) && !(q.1 + 1 == i && q.2.category == 2)) = L') (kk : V κ φ k n (pc + 2) L' st h F) : V κ φ k n pc L (.int x :: st) h F := by
  obtain ⟨⟨p, l, e, R, s, m, args, below, meth, c⟩, D, tys, base, nL, Q⟩ := κ
  obtain ⟨hx, hb, hml, hown, hts, hK, hty, hbs, hlk, hNW, hSC⟩ := hc
  intro v hv H locs ls hP hS hl
  exact lv_istore hx hb hd hl hn he (fun ls hl => kk v hv H locs ls hP hS hl)
theorem v_lstore {β : Type} {κ : Kx} {φ : β → Option Value × AH} {own : String} {cc : ByteArray} (hc : CX κ own cc) {k n pc : Nat} {L : List (Nat × Value)} {st : List Value} {h : AH} {F : Option β} {i : Nat} {x : Int64} {L' : List (Nat × Value)} (hd : decode cc pc = .ok (.lstore i, 2)) (hn : i + 1 < κ.2.2.2.2.1) (he : (i, (.long x : Value)) :: L.filter (fun q => !(q.1 == i) && (!(q.1 == i + 1) && !(q.1 + 1 == i && q.2.category == 2))) = L') (kk : V κ φ k n (pc + 2) L' st h F) : V κ φ k n pc L (.long x :: st) h F := by
  obtain ⟨⟨p, l, e, R, s, m, args, below, meth, c⟩, D, tys, base, nL, Q⟩ := κ
  obtain ⟨hx, hb, hml, hown, hts, hK, hty, hbs, hlk, hNW, hSC⟩ := hc
  intro v hv H locs ls hP hS hl
  exact lv_lstore hx hb hd hl hn he (fun ls hl => kk v hv H locs ls hP hS hl)
theorem v_astore {β : Type} {κ : Kx} {φ : β → Option Value × AH} {own : String} {cc : ByteArray} (hc : CX κ own cc) {k n pc : Nat} {L : List (Nat × Value)} {st : List Value} {h : AH} {F : Option β} {i : Nat} {x : Nat} {L' : List (Nat × Value)} (hd : decode cc pc = .ok (.astore i, 2)) (hn : i < κ.2.2.2.2.1) (he : (i, (.ref x : Value)) :: L.filter (fun q => !(q.1 == i) && !(q.1 + 1 == i && q.2.category == 2)) = L') (kk : V κ φ k n (pc + 2) L' st h F) : V κ φ k n pc L (.ref x :: st) h F := by
  obtain ⟨⟨p, l, e, R, s, m, args, below, meth, c⟩, D, tys, base, nL, Q⟩ := κ
  obtain ⟨hx, hb, hml, hown, hts, hK, hty, hbs, hlk, hNW, hSC⟩ := hc
  intro v hv H locs ls hP hS hl
  exact lv_astore hx hb hd hl hn he (fun ls hl => kk v hv H locs ls hP hS hl)
theorem v_astoreq_n {β : Type} {κ : Kx} {φ : β → Option Value × AH} {own : String} {cc : ByteArray} (hc : CX κ own cc) {k n pc : Nat} {L : List (Nat × Value)} {st : List Value} {h : AH} {F : Option β} {z : Fin 4} {i : Nat} {x : Option Nat} {L' : List (Nat × Value)} (hd : decode cc pc = .ok (.astore_n z, 1)) (hi : (z : Nat) = i) (hn : i < κ.2.2.2.2.1) (he : (i, va_rf x) :: L.filter (fun q => !(q.1 == i) && !(q.1 + 1 == i && q.2.category == 2)) = L') (kk : V κ φ k n (pc + 1) L' st h F) : V κ φ k n pc L (va_rf x :: st) h F := by
  obtain ⟨⟨p, l, e, R, s, m, args, below, meth, c⟩, D, tys, base, nL, Q⟩ := κ
  obtain ⟨hx, hb, hml, hown, hts, hK, hty, hbs, hlk, hNW, hSC⟩ := hc
  intro v hv H locs ls hP hS hl
  cases x with
  | none => exact lv_astore_nN hx hb hd hi hl hn he (fun ls hl => kk v hv H locs ls hP hS hl)
  | some a => exact lv_astore_n hx hb hd hi hl hn he (fun ls hl => kk v hv H locs ls hP hS hl)
theorem v_astoreq {β : Type} {κ : Kx} {φ : β → Option Value × AH} {own : String} {cc : ByteArray} (hc : CX κ own cc) {k n pc : Nat} {L : List (Nat × Value)} {st : List Value} {h : AH} {F : Option β} {i : Nat} {x : Option Nat} {L' : List (Nat × Value)} (hd : decode cc pc = .ok (.astore i, 2)) (hn : i < κ.2.2.2.2.1) (he : (i, va_rf x) :: L.filter (fun q => !(q.1 == i) && !(q.1 + 1 == i && q.2.category == 2)) = L') (kk : V κ φ k n (pc + 2) L' st h F) : V κ φ k n pc L (va_rf x :: st) h F := by
  obtain ⟨⟨p, l, e, R, s, m, args, below, meth, c⟩, D, tys, base, nL, Q⟩ := κ
  obtain ⟨hx, hb, hml, hown, hts, hK, hty, hbs, hlk, hNW, hSC⟩ := hc
  intro v hv H locs ls hP hS hl
  cases x with
  | none => exact lv_astoreN hx hb hd hl hn he (fun ls hl => kk v hv H locs ls hP hS hl)
  | some a => exact lv_astore hx hb hd hl hn he (fun ls hl => kk v hv H locs ls hP hS hl)
theorem v_iinc {β : Type} {κ : Kx} {φ : β → Option Value × AH} {own : String} {cc : ByteArray} (hc : CX κ own cc) {k n pc : Nat} {L : List (Nat × Value)} {st : List Value} {h : AH} {F : Option β} {i : Nat} {z : Int} {x y : Int32} {L' : List (Nat × Value)} (j : Nat) (hk : L[j]? = some (i, .int x)) (hd : decode cc pc = .ok (.iinc i z, 3)) (hz : Int32.ofInt z = y) (hn : i < κ.2.2.2.2.1) (he : (i, Value.int (x + y)) :: L.filter (fun q => !(q.1 == i) && !(q.1 + 1 == i && q.2.category == 2)) = L') (kk : V κ φ k n (pc + 3) L' st h F) : V κ φ k n pc L st h F := by
  obtain ⟨⟨p, l, e, R, s, m, args, below, meth, c⟩, D, tys, base, nL, Q⟩ := κ
  obtain ⟨hx, hb, hml, hown, hts, hK, hty, hbs, hlk, hNW, hSC⟩ := hc
  intro v hv H locs ls hP hS hl
  exact lv_iinc hx hb hd hl hk (by rw [hz]) hn he (fun ls hl => kk v hv H locs ls hP hS hl)
theorem v_dup {β : Type} {κ : Kx} {φ : β → Option Value × AH} {own : String} {cc : ByteArray} (hc : CX κ own cc) {k n pc : Nat} {L : List (Nat × Value)} {st : List Value} {h : AH} {F : Option β} {x : Value} (hd : decode cc pc = .ok (.dup, 1)) (hca : x.category = 1) (kk : V κ φ k n (pc + 1) L (x :: x :: st) h F) : V κ φ k n pc L (x :: st) h F := by
  obtain ⟨⟨p, l, e, R, s, m, args, below, meth, c⟩, D, tys, base, nL, Q⟩ := κ
  obtain ⟨hx, hb, hml, hown, hts, hK, hty, hbs, hlk, hNW, hSC⟩ := hc
  intro v hv H locs ls hP hS hl
  exact lv_dup hx hb hd hca (kk v hv H locs ls hP hS hl)
theorem v_pop {β : Type} {κ : Kx} {φ : β → Option Value × AH} {own : String} {cc : ByteArray} (hc : CX κ own cc) {k n pc : Nat} {L : List (Nat × Value)} {st : List Value} {h : AH} {F : Option β} {x : Value} (hd : decode cc pc = .ok (.pop, 1)) (hca : x.category = 1) (kk : V κ φ k n (pc + 1) L st h F) : V κ φ k n pc L (x :: st) h F := by
  obtain ⟨⟨p, l, e, R, s, m, args, below, meth, c⟩, D, tys, base, nL, Q⟩ := κ
  obtain ⟨hx, hb, hml, hown, hts, hK, hty, hbs, hlk, hNW, hSC⟩ := hc
  intro v hv H locs ls hP hS hl
  exact lv_pop hx hb hd hca (kk v hv H locs ls hP hS hl)
theorem v_dup2 {β : Type} {κ : Kx} {φ : β → Option Value × AH} {own : String} {cc : ByteArray} (hc : CX κ own cc) {k n pc : Nat} {L : List (Nat × Value)} {st : List Value} {h : AH} {F : Option β} {x y : Value} (hd : decode cc pc = .ok (.dup2, 1)) (hca : x.category = 1) (hcb : y.category = 1) (kk : V κ φ k n (pc + 1) L (x :: y :: x :: y :: st) h F) : V κ φ k n pc L (x :: y :: st) h F := by
  obtain ⟨⟨p, l, e, R, s, m, args, below, meth, c⟩, D, tys, base, nL, Q⟩ := κ
  obtain ⟨hx, hb, hml, hown, hts, hK, hty, hbs, hlk, hNW, hSC⟩ := hc
  intro v hv H locs ls hP hS hl
  exact lv_dup2_11 hx hb hd hca hcb (kk v hv H locs ls hP hS hl)
theorem v_if_eq {β : Type} {κ : Kx} {φ : β → Option Value × AH} {own : String} {cc : ByteArray} (hc : CX κ own cc) {k n pc : Nat} {L : List (Nat × Value)} {st : List Value} {h : AH} {x : Int32} {off : Int} {A B : Option β} (tgt : Nat) (hd : decode cc pc = .ok (.ifCond .eq off, 3)) (ht : (pc : Int) + off = (tgt : Int)) (kt : V κ φ k n tgt L st h A) (kf : V κ φ k n (pc + 3) L st h B) : V κ φ k n pc L (.int x :: st) h (if x = 0 then A else B) := by
  obtain ⟨⟨p, l, e, R, s, m, args, below, meth, c⟩, D, tys, base, nL, Q⟩ := κ
  obtain ⟨hx, hb, hml, hown, hts, hK, hty, hbs, hlk, hNW, hSC⟩ := hc
  intro v hv H locs ls hP hS hl
  exact lv_if_eq hx hb hd ht (fun hq => kt v (by rw [if_pos hq] at hv; exact hv) H locs ls hP hS hl) (fun hq => kf v (by rw [if_neg hq] at hv; exact hv) H locs ls hP hS hl)
theorem v_if_ne {β : Type} {κ : Kx} {φ : β → Option Value × AH} {own : String} {cc : ByteArray} (hc : CX κ own cc) {k n pc : Nat} {L : List (Nat × Value)} {st : List Value} {h : AH} {x : Int32} {off : Int} {A B : Option β} (tgt : Nat) (hd : decode cc pc = .ok (.ifCond .ne off, 3)) (ht : (pc : Int) + off = (tgt : Int)) (kt : V κ φ k n tgt L st h A) (kf : V κ φ k n (pc + 3) L st h B) : V κ φ k n pc L (.int x :: st) h (if x = 0 then B else A) := by
  obtain ⟨⟨p, l, e, R, s, m, args, below, meth, c⟩, D, tys, base, nL, Q⟩ := κ
  obtain ⟨hx, hb, hml, hown, hts, hK, hty, hbs, hlk, hNW, hSC⟩ := hc
  intro v hv H locs ls hP hS hl
  exact lv_if_ne hx hb hd ht (fun hq => kt v (by rw [if_neg hq] at hv; exact hv) H locs ls hP hS hl) (fun hq => kf v (by rw [if_pos hq] at hv; exact hv) H locs ls hP hS hl)
theorem v_if_lt {β : Type} {κ : Kx} {φ : β → Option Value × AH} {own : String} {cc : ByteArray} (hc : CX κ own cc) {k n pc : Nat} {L : List (Nat × Value)} {st : List Value} {h : AH} {x : Int32} {off : Int} {A B : Option β} (tgt : Nat) (hd : decode cc pc = .ok (.ifCond .lt off, 3)) (ht : (pc : Int) + off = (tgt : Int)) (kt : V κ φ k n tgt L st h A) (kf : V κ φ k n (pc + 3) L st h B) : V κ φ k n pc L (.int x :: st) h (if x < 0 then A else B) := by
  obtain ⟨⟨p, l, e, R, s, m, args, below, meth, c⟩, D, tys, base, nL, Q⟩ := κ
  obtain ⟨hx, hb, hml, hown, hts, hK, hty, hbs, hlk, hNW, hSC⟩ := hc
  intro v hv H locs ls hP hS hl
  exact lv_if_lt hx hb hd ht (fun hq => kt v (by rw [if_pos hq] at hv; exact hv) H locs ls hP hS hl) (fun hq => kf v (by rw [if_neg hq] at hv; exact hv) H locs ls hP hS hl)
theorem v_if_ge {β : Type} {κ : Kx} {φ : β → Option Value × AH} {own : String} {cc : ByteArray} (hc : CX κ own cc) {k n pc : Nat} {L : List (Nat × Value)} {st : List Value} {h : AH} {x : Int32} {off : Int} {A B : Option β} (tgt : Nat) (hd : decode cc pc = .ok (.ifCond .ge off, 3)) (ht : (pc : Int) + off = (tgt : Int)) (kt : V κ φ k n tgt L st h A) (kf : V κ φ k n (pc + 3) L st h B) : V κ φ k n pc L (.int x :: st) h (if 0 ≤ x then A else B) := by
  obtain ⟨⟨p, l, e, R, s, m, args, below, meth, c⟩, D, tys, base, nL, Q⟩ := κ
  obtain ⟨hx, hb, hml, hown, hts, hK, hty, hbs, hlk, hNW, hSC⟩ := hc
  intro v hv H locs ls hP hS hl
  exact lv_if_ge hx hb hd ht (fun hq => kt v (by rw [if_pos hq] at hv; exact hv) H locs ls hP hS hl) (fun hq => kf v (by rw [if_neg hq] at hv; exact hv) H locs ls hP hS hl)
theorem v_if_gt {β : Type} {κ : Kx} {φ : β → Option Value × AH} {own : String} {cc : ByteArray} (hc : CX κ own cc) {k n pc : Nat} {L : List (Nat × Value)} {st : List Value} {h : AH} {x : Int32} {off : Int} {A B : Option β} (tgt : Nat) (hd : decode cc pc = .ok (.ifCond .gt off, 3)) (ht : (pc : Int) + off = (tgt : Int)) (kt : V κ φ k n tgt L st h A) (kf : V κ φ k n (pc + 3) L st h B) : V κ φ k n pc L (.int x :: st) h (if 0 < x then A else B) := by
  obtain ⟨⟨p, l, e, R, s, m, args, below, meth, c⟩, D, tys, base, nL, Q⟩ := κ
  obtain ⟨hx, hb, hml, hown, hts, hK, hty, hbs, hlk, hNW, hSC⟩ := hc
  intro v hv H locs ls hP hS hl
  exact lv_if_gt hx hb hd ht (fun hq => kt v (by rw [if_pos hq] at hv; exact hv) H locs ls hP hS hl) (fun hq => kf v (by rw [if_neg hq] at hv; exact hv) H locs ls hP hS hl)
theorem v_if_le {β : Type} {κ : Kx} {φ : β → Option Value × AH} {own : String} {cc : ByteArray} (hc : CX κ own cc) {k n pc : Nat} {L : List (Nat × Value)} {st : List Value} {h : AH} {x : Int32} {off : Int} {A B : Option β} (tgt : Nat) (hd : decode cc pc = .ok (.ifCond .le off, 3)) (ht : (pc : Int) + off = (tgt : Int)) (kt : V κ φ k n tgt L st h A) (kf : V κ φ k n (pc + 3) L st h B) : V κ φ k n pc L (.int x :: st) h (if x ≤ 0 then A else B) := by
  obtain ⟨⟨p, l, e, R, s, m, args, below, meth, c⟩, D, tys, base, nL, Q⟩ := κ
  obtain ⟨hx, hb, hml, hown, hts, hK, hty, hbs, hlk, hNW, hSC⟩ := hc
  intro v hv H locs ls hP hS hl
  exact lv_if_le hx hb hd ht (fun hq => kt v (by rw [if_pos hq] at hv; exact hv) H locs ls hP hS hl) (fun hq => kf v (by rw [if_neg hq] at hv; exact hv) H locs ls hP hS hl)
theorem v_icmp_eq {β : Type} {κ : Kx} {φ : β → Option Value × AH} {own : String} {cc : ByteArray} (hc : CX κ own cc) {k n pc : Nat} {L : List (Nat × Value)} {st : List Value} {h : AH} {x y : Int32} {off : Int} {A B : Option β} (tgt : Nat) (hd : decode cc pc = .ok (.if_icmp .eq off, 3)) (ht : (pc : Int) + off = (tgt : Int)) (kt : V κ φ k n tgt L st h A) (kf : V κ φ k n (pc + 3) L st h B) : V κ φ k n pc L (.int y :: .int x :: st) h (if x = y then A else B) := by
  obtain ⟨⟨p, l, e, R, s, m, args, below, meth, c⟩, D, tys, base, nL, Q⟩ := κ
  obtain ⟨hx, hb, hml, hown, hts, hK, hty, hbs, hlk, hNW, hSC⟩ := hc
  intro v hv H locs ls hP hS hl
  exact lv_icmp_eq hx hb hd ht (fun hq => kt v (by rw [if_pos hq] at hv; exact hv) H locs ls hP hS hl) (fun hq => kf v (by rw [if_neg hq] at hv; exact hv) H locs ls hP hS hl)
theorem v_icmp_ne {β : Type} {κ : Kx} {φ : β → Option Value × AH} {own : String} {cc : ByteArray} (hc : CX κ own cc) {k n pc : Nat} {L : List (Nat × Value)} {st : List Value} {h : AH} {x y : Int32} {off : Int} {A B : Option β} (tgt : Nat) (hd : decode cc pc = .ok (.if_icmp .ne off, 3)) (ht : (pc : Int) + off = (tgt : Int)) (kt : V κ φ k n tgt L st h A) (kf : V κ φ k n (pc + 3) L st h B) : V κ φ k n pc L (.int y :: .int x :: st) h (if x = y then B else A) := by
  obtain ⟨⟨p, l, e, R, s, m, args, below, meth, c⟩, D, tys, base, nL, Q⟩ := κ
  obtain ⟨hx, hb, hml, hown, hts, hK, hty, hbs, hlk, hNW, hSC⟩ := hc
  intro v hv H locs ls hP hS hl
  exact lv_icmp_ne hx hb hd ht (fun hq => kt v (by rw [if_neg hq] at hv; exact hv) H locs ls hP hS hl) (fun hq => kf v (by rw [if_pos hq] at hv; exact hv) H locs ls hP hS hl)
theorem v_icmp_lt {β : Type} {κ : Kx} {φ : β → Option Value × AH} {own : String} {cc : ByteArray} (hc : CX κ own cc) {k n pc : Nat} {L : List (Nat × Value)} {st : List Value} {h : AH} {x y : Int32} {off : Int} {A B : Option β} (tgt : Nat) (hd : decode cc pc = .ok (.if_icmp .lt off, 3)) (ht : (pc : Int) + off = (tgt : Int)) (kt : V κ φ k n tgt L st h A) (kf : V κ φ k n (pc + 3) L st h B) : V κ φ k n pc L (.int y :: .int x :: st) h (if x < y then A else B) := by
  obtain ⟨⟨p, l, e, R, s, m, args, below, meth, c⟩, D, tys, base, nL, Q⟩ := κ
  obtain ⟨hx, hb, hml, hown, hts, hK, hty, hbs, hlk, hNW, hSC⟩ := hc
  intro v hv H locs ls hP hS hl
  exact lv_icmp_lt hx hb hd ht (fun hq => kt v (by rw [if_pos hq] at hv; exact hv) H locs ls hP hS hl) (fun hq => kf v (by rw [if_neg hq] at hv; exact hv) H locs ls hP hS hl)
theorem v_icmp_ge {β : Type} {κ : Kx} {φ : β → Option Value × AH} {own : String} {cc : ByteArray} (hc : CX κ own cc) {k n pc : Nat} {L : List (Nat × Value)} {st : List Value} {h : AH} {x y : Int32} {off : Int} {A B : Option β} (tgt : Nat) (hd : decode cc pc = .ok (.if_icmp .ge off, 3)) (ht : (pc : Int) + off = (tgt : Int)) (kt : V κ φ k n tgt L st h A) (kf : V κ φ k n (pc + 3) L st h B) : V κ φ k n pc L (.int y :: .int x :: st) h (if y ≤ x then A else B) := by
  obtain ⟨⟨p, l, e, R, s, m, args, below, meth, c⟩, D, tys, base, nL, Q⟩ := κ
  obtain ⟨hx, hb, hml, hown, hts, hK, hty, hbs, hlk, hNW, hSC⟩ := hc
  intro v hv H locs ls hP hS hl
  exact lv_icmp_ge hx hb hd ht (fun hq => kt v (by rw [if_pos hq] at hv; exact hv) H locs ls hP hS hl) (fun hq => kf v (by rw [if_neg hq] at hv; exact hv) H locs ls hP hS hl)
theorem v_icmp_gt {β : Type} {κ : Kx} {φ : β → Option Value × AH} {own : String} {cc : ByteArray} (hc : CX κ own cc) {k n pc : Nat} {L : List (Nat × Value)} {st : List Value} {h : AH} {x y : Int32} {off : Int} {A B : Option β} (tgt : Nat) (hd : decode cc pc = .ok (.if_icmp .gt off, 3)) (ht : (pc : Int) + off = (tgt : Int)) (kt : V κ φ k n tgt L st h A) (kf : V κ φ k n (pc + 3) L st h B) : V κ φ k n pc L (.int y :: .int x :: st) h (if y < x then A else B) := by
  obtain ⟨⟨p, l, e, R, s, m, args, below, meth, c⟩, D, tys, base, nL, Q⟩ := κ
  obtain ⟨hx, hb, hml, hown, hts, hK, hty, hbs, hlk, hNW, hSC⟩ := hc
  intro v hv H locs ls hP hS hl
  exact lv_icmp_gt hx hb hd ht (fun hq => kt v (by rw [if_pos hq] at hv; exact hv) H locs ls hP hS hl) (fun hq => kf v (by rw [if_neg hq] at hv; exact hv) H locs ls hP hS hl)
theorem v_icmp_le {β : Type} {κ : Kx} {φ : β → Option Value × AH} {own : String} {cc : ByteArray} (hc : CX κ own cc) {k n pc : Nat} {L : List (Nat × Value)} {st : List Value} {h : AH} {x y : Int32} {off : Int} {A B : Option β} (tgt : Nat) (hd : decode cc pc = .ok (.if_icmp .le off, 3)) (ht : (pc : Int) + off = (tgt : Int)) (kt : V κ φ k n tgt L st h A) (kf : V κ φ k n (pc + 3) L st h B) : V κ φ k n pc L (.int y :: .int x :: st) h (if x ≤ y then A else B) := by
  obtain ⟨⟨p, l, e, R, s, m, args, below, meth, c⟩, D, tys, base, nL, Q⟩ := κ
  obtain ⟨hx, hb, hml, hown, hts, hK, hty, hbs, hlk, hNW, hSC⟩ := hc
  intro v hv H locs ls hP hS hl
  exact lv_icmp_le hx hb hd ht (fun hq => kt v (by rw [if_pos hq] at hv; exact hv) H locs ls hP hS hl) (fun hq => kf v (by rw [if_neg hq] at hv; exact hv) H locs ls hP hS hl)
theorem v_goto {β : Type} {κ : Kx} {φ : β → Option Value × AH} {own : String} {cc : ByteArray} (hc : CX κ own cc) {k n pc : Nat} {L : List (Nat × Value)} {st : List Value} {h : AH} {F : Option β} {off : Int} (tgt : Nat) (hd : decode cc pc = .ok (.goto off, 3)) (ht : (pc : Int) + off = (tgt : Int)) (kk : V κ φ k n (tgt) L st h F) : V κ φ k n pc L st h F := by
  obtain ⟨⟨p, l, e, R, s, m, args, below, meth, c⟩, D, tys, base, nL, Q⟩ := κ
  obtain ⟨hx, hb, hml, hown, hts, hK, hty, hbs, hlk, hNW, hSC⟩ := hc
  intro v hv H locs ls hP hS hl
  exact lv_goto hx hb hd ht (kk v hv H locs ls hP hS hl)
theorem v_ifb_eq {β : Type} {κ : Kx} {φ : β → Option Value × AH} {own : String} {cc : ByteArray} (hc : CX κ own cc) {k n pc : Nat} {L : List (Nat × Value)} {st : List Value} {h : AH} {b : Bool} {off : Int} {A B : Option β} (tgt : Nat) (hd : decode cc pc = .ok (.ifCond .eq off, 3)) (ht : (pc : Int) + off = (tgt : Int)) (kt : V κ φ k n tgt L st h A) (kf : V κ φ k n (pc + 3) L st h B) : V κ φ k n pc L (.int (bI b) :: st) h (if b = true then B else A) := by
  cases b
  · refine v_eq (F' := if (bI false) = 0 then A else B) (by simp [bI]) (v_if_eq hc tgt hd ht kt kf)
  · refine v_eq (F' := if (bI true) = 0 then A else B) (by simp [bI]) (v_if_eq hc tgt hd ht kt kf)
theorem v_ifb_ne {β : Type} {κ : Kx} {φ : β → Option Value × AH} {own : String} {cc : ByteArray} (hc : CX κ own cc) {k n pc : Nat} {L : List (Nat × Value)} {st : List Value} {h : AH} {b : Bool} {off : Int} {A B : Option β} (tgt : Nat) (hd : decode cc pc = .ok (.ifCond .ne off, 3)) (ht : (pc : Int) + off = (tgt : Int)) (kt : V κ φ k n tgt L st h A) (kf : V κ φ k n (pc + 3) L st h B) : V κ φ k n pc L (.int (bI b) :: st) h (if b = true then A else B) := by
  cases b
  · refine v_eq (F' := if (bI false) = 0 then B else A) (by simp [bI]) (v_if_ne hc tgt hd ht kt kf)
  · refine v_eq (F' := if (bI true) = 0 then B else A) (by simp [bI]) (v_if_ne hc tgt hd ht kt kf)
theorem v_ifnull {β : Type} {κ : Kx} {φ : β → Option Value × AH} {own : String} {cc : ByteArray} (hc : CX κ own cc) {k n pc : Nat} {L : List (Nat × Value)} {st : List Value} {h : AH} {x : Option Nat} {off : Int} {A : Option β} {B : Nat → Option β} (tgt : Nat) (hd : decode cc pc = .ok (.ifnull off, 3)) (ht : (pc : Int) + off = (tgt : Int)) (kt : x = none → V κ φ k n tgt L st h A) (kf : ∀ a, x = some a → V κ φ k n (pc + 3) L st h (B a)) : V κ φ k n pc L (va_rf x :: st) h (oM x A B) := by
  obtain ⟨⟨p, l, e, R, s, m, args, below, meth, c⟩, D, tys, base, nL, Q⟩ := κ
  obtain ⟨hx, hb, hml, hown, hts, hK, hty, hbs, hlk, hNW, hSC⟩ := hc
  intro v hv H locs ls hP hS hl
  cases x with
  | none => exact lv_ifnullN hx hb hd ht (kt rfl v hv H locs ls hP hS hl)
  | some a => exact lv_ifnull hx hb hd (kf a rfl v hv H locs ls hP hS hl)
theorem v_ifnonnull {β : Type} {κ : Kx} {φ : β → Option Value × AH} {own : String} {cc : ByteArray} (hc : CX κ own cc) {k n pc : Nat} {L : List (Nat × Value)} {st : List Value} {h : AH} {x : Option Nat} {off : Int} {A : Option β} {B : Nat → Option β} (tgt : Nat) (hd : decode cc pc = .ok (.ifnonnull off, 3)) (ht : (pc : Int) + off = (tgt : Int)) (kf : x = none → V κ φ k n (pc + 3) L st h A) (kt : ∀ a, x = some a → V κ φ k n tgt L st h (B a)) : V κ φ k n pc L (va_rf x :: st) h (oM x A B) := by
  obtain ⟨⟨p, l, e, R, s, m, args, below, meth, c⟩, D, tys, base, nL, Q⟩ := κ
  obtain ⟨hx, hb, hml, hown, hts, hK, hty, hbs, hlk, hNW, hSC⟩ := hc
  intro v hv H locs ls hP hS hl
  cases x with
  | none => exact lv_ifnonnullN hx hb hd (kf rfl v hv H locs ls hP hS hl)
  | some a => exact lv_ifnonnull hx hb hd ht (kt a rfl v hv H locs ls hP hS hl)
theorem v_lcmp_eq {β : Type} {κ : Kx} {φ : β → Option Value × AH} {own : String} {cc : ByteArray} (hc : CX κ own cc) {k n pc : Nat} {L : List (Nat × Value)} {st : List Value} {h : AH} {x y : Int64} {off : Int} {A B : Option β} (tgt : Nat) (h0 : decode cc pc = .ok (.lcmp, 1)) (hd : decode cc (pc + 1) = .ok (.ifCond .eq off, 3)) (ht : ((pc + 1 : Nat) : Int) + off = (tgt : Int)) (kt : V κ φ k n tgt L st h A) (kf : V κ φ k n (pc + 1 + 3) L st h B) : V κ φ k n pc L (.long y :: .long x :: st) h (if x = y then A else B) := by
  obtain ⟨⟨p, l, e, R, s, m, args, below, meth, c⟩, D, tys, base, nL, Q⟩ := κ
  obtain ⟨hx, hb, hml, hown, hts, hK, hty, hbs, hlk, hNW, hSC⟩ := hc
  intro v hv H locs ls hP hS hl
  refine W.lcmp hx hb h0 ?_
  have e := lcmp_eq x y
  exact lv_if_eq hx hb hd ht (fun hq => kt v (by rw [if_pos (e.mp hq)] at hv; exact hv) H locs ls hP hS hl) (fun hq => kf v (by rw [if_neg (fun z => hq (e.mpr z))] at hv; exact hv) H locs ls hP hS hl)
theorem v_lcmp_ne {β : Type} {κ : Kx} {φ : β → Option Value × AH} {own : String} {cc : ByteArray} (hc : CX κ own cc) {k n pc : Nat} {L : List (Nat × Value)} {st : List Value} {h : AH} {x y : Int64} {off : Int} {A B : Option β} (tgt : Nat) (h0 : decode cc pc = .ok (.lcmp, 1)) (hd : decode cc (pc + 1) = .ok (.ifCond .ne off, 3)) (ht : ((pc + 1 : Nat) : Int) + off = (tgt : Int)) (kt : V κ φ k n tgt L st h A) (kf : V κ φ k n (pc + 1 + 3) L st h B) : V κ φ k n pc L (.long y :: .long x :: st) h (if x = y then B else A) := by
  obtain ⟨⟨p, l, e, R, s, m, args, below, meth, c⟩, D, tys, base, nL, Q⟩ := κ
  obtain ⟨hx, hb, hml, hown, hts, hK, hty, hbs, hlk, hNW, hSC⟩ := hc
  intro v hv H locs ls hP hS hl
  refine W.lcmp hx hb h0 ?_
  have e := lcmp_ne x y
  exact lv_if_ne hx hb hd ht (fun hq => kt v (by rw [if_neg (e.mp hq)] at hv; exact hv) H locs ls hP hS hl) (fun hq => kf v (by rw [if_pos ((lcmp_eq x y).mp hq)] at hv; exact hv) H locs ls hP hS hl)
theorem v_lcmp_lt {β : Type} {κ : Kx} {φ : β → Option Value × AH} {own : String} {cc : ByteArray} (hc : CX κ own cc) {k n pc : Nat} {L : List (Nat × Value)} {st : List Value} {h : AH} {x y : Int64} {off : Int} {A B : Option β} (tgt : Nat) (h0 : decode cc pc = .ok (.lcmp, 1)) (hd : decode cc (pc + 1) = .ok (.ifCond .lt off, 3)) (ht : ((pc + 1 : Nat) : Int) + off = (tgt : Int)) (kt : V κ φ k n tgt L st h A) (kf : V κ φ k n (pc + 1 + 3) L st h B) : V κ φ k n pc L (.long y :: .long x :: st) h (if x < y then A else B) := by
  obtain ⟨⟨p, l, e, R, s, m, args, below, meth, c⟩, D, tys, base, nL, Q⟩ := κ
  obtain ⟨hx, hb, hml, hown, hts, hK, hty, hbs, hlk, hNW, hSC⟩ := hc
  intro v hv H locs ls hP hS hl
  refine W.lcmp hx hb h0 ?_
  have e := lcmp_lt x y
  exact lv_if_lt hx hb hd ht (fun hq => kt v (by rw [if_pos (e.mp hq)] at hv; exact hv) H locs ls hP hS hl) (fun hq => kf v (by rw [if_neg (fun z => hq (e.mpr z))] at hv; exact hv) H locs ls hP hS hl)
theorem v_lcmp_ge {β : Type} {κ : Kx} {φ : β → Option Value × AH} {own : String} {cc : ByteArray} (hc : CX κ own cc) {k n pc : Nat} {L : List (Nat × Value)} {st : List Value} {h : AH} {x y : Int64} {off : Int} {A B : Option β} (tgt : Nat) (h0 : decode cc pc = .ok (.lcmp, 1)) (hd : decode cc (pc + 1) = .ok (.ifCond .ge off, 3)) (ht : ((pc + 1 : Nat) : Int) + off = (tgt : Int)) (kt : V κ φ k n tgt L st h A) (kf : V κ φ k n (pc + 1 + 3) L st h B) : V κ φ k n pc L (.long y :: .long x :: st) h (if y ≤ x then A else B) := by
  obtain ⟨⟨p, l, e, R, s, m, args, below, meth, c⟩, D, tys, base, nL, Q⟩ := κ
  obtain ⟨hx, hb, hml, hown, hts, hK, hty, hbs, hlk, hNW, hSC⟩ := hc
  intro v hv H locs ls hP hS hl
  refine W.lcmp hx hb h0 ?_
  have e := lcmp_ge x y
  exact lv_if_ge hx hb hd ht (fun hq => kt v (by rw [if_pos (e.mp hq)] at hv; exact hv) H locs ls hP hS hl) (fun hq => kf v (by rw [if_neg (fun z => hq (e.mpr z))] at hv; exact hv) H locs ls hP hS hl)
theorem v_lcmp_gt {β : Type} {κ : Kx} {φ : β → Option Value × AH} {own : String} {cc : ByteArray} (hc : CX κ own cc) {k n pc : Nat} {L : List (Nat × Value)} {st : List Value} {h : AH} {x y : Int64} {off : Int} {A B : Option β} (tgt : Nat) (h0 : decode cc pc = .ok (.lcmp, 1)) (hd : decode cc (pc + 1) = .ok (.ifCond .gt off, 3)) (ht : ((pc + 1 : Nat) : Int) + off = (tgt : Int)) (kt : V κ φ k n tgt L st h A) (kf : V κ φ k n (pc + 1 + 3) L st h B) : V κ φ k n pc L (.long y :: .long x :: st) h (if y < x then A else B) := by
  obtain ⟨⟨p, l, e, R, s, m, args, below, meth, c⟩, D, tys, base, nL, Q⟩ := κ
  obtain ⟨hx, hb, hml, hown, hts, hK, hty, hbs, hlk, hNW, hSC⟩ := hc
  intro v hv H locs ls hP hS hl
  refine W.lcmp hx hb h0 ?_
  have e := lcmp_gt x y
  exact lv_if_gt hx hb hd ht (fun hq => kt v (by rw [if_pos (e.mp hq)] at hv; exact hv) H locs ls hP hS hl) (fun hq => kf v (by rw [if_neg (fun z => hq (e.mpr z))] at hv; exact hv) H locs ls hP hS hl)
theorem v_lcmp_le {β : Type} {κ : Kx} {φ : β → Option Value × AH} {own : String} {cc : ByteArray} (hc : CX κ own cc) {k n pc : Nat} {L : List (Nat × Value)} {st : List Value} {h : AH} {x y : Int64} {off : Int} {A B : Option β} (tgt : Nat) (h0 : decode cc pc = .ok (.lcmp, 1)) (hd : decode cc (pc + 1) = .ok (.ifCond .le off, 3)) (ht : ((pc + 1 : Nat) : Int) + off = (tgt : Int)) (kt : V κ φ k n tgt L st h A) (kf : V κ φ k n (pc + 1 + 3) L st h B) : V κ φ k n pc L (.long y :: .long x :: st) h (if x ≤ y then A else B) := by
  obtain ⟨⟨p, l, e, R, s, m, args, below, meth, c⟩, D, tys, base, nL, Q⟩ := κ
  obtain ⟨hx, hb, hml, hown, hts, hK, hty, hbs, hlk, hNW, hSC⟩ := hc
  intro v hv H locs ls hP hS hl
  refine W.lcmp hx hb h0 ?_
  have e := lcmp_le x y
  exact lv_if_le hx hb hd ht (fun hq => kt v (by rw [if_pos (e.mp hq)] at hv; exact hv) H locs ls hP hS hl) (fun hq => kf v (by rw [if_neg (fun z => hq (e.mpr z))] at hv; exact hv) H locs ls hP hS hl)
theorem tys_at {tys : Tys} (h : tys.map Prod.snd = TYL) (t : Nat) {ty : FieldType} (ht : TYL[t]? = some ty) : tys[t]? = some ((tys.getD t (0, .int)).1, ty) := by
  have h1 : (tys.map Prod.snd)[t]? = some ty := by rw [h]; exact ht
  rw [List.getElem?_map] at h1
  cases hq : tys[t]? with
  | none => rw [hq] at h1; cases h1
  | some q =>
    rw [hq] at h1
    obtain ⟨q1, q2⟩ := q
    have e : q2 = ty := by simpa using h1
    subst e
    simp [List.getD, hq]
theorem obj_of {ci : Nat} {h : AH} {a : Nat} {fs : List Value} (e : hObj ci h a = some fs) : h.2 a = some (.inr (ci, fs)) := by
  unfold hObj at e
  split at e
  · rename_i c fs' h1
    split at e
    · rename_i hc; subst hc; cases e; exact h1
    · cases e
  · cases e
theorem xI_of {t : Nat} {h : AH} {a n : Nat} {f : Nat → Int32} (e : xI t h a = some (n, f)) : h.2 a = some (.inl (t, n, .inl f)) := by
  unfold xI at e
  split at e
  · rename_i c n' f' h1
    split at e
    · rename_i hc; subst hc; cases e; exact h1
    · cases e
  · cases e
theorem xL_of {h : AH} {a n : Nat} {f : Nat → Int64} (e : xL h a = some (n, f)) : h.2 a = some (.inl (1, n, .inr (.inl f))) := by
  unfold xL at e
  split at e
  · rename_i c n' f' h1
    split at e
    · rename_i hc; subst hc; cases e; exact h1
    · cases e
  · cases e
theorem xQ_of {t : Nat} {h : AH} {a n : Nat} {f : Nat → Option Nat} (e : xQ t h a = some (n, f)) : h.2 a = some (.inl (t, n, .inr (.inr (.inr (.inr f))))) := by
  unfold xQ at e
  split at e
  · rename_i c n' f' h1
    split at e
    · rename_i hc; subst hc; cases e; exact h1
    · cases e
  · cases e
theorem ix_of {i : Int32} {n j : Nat} (e : ix i n = some j) : vp_in i n ∧ i.toNatClampNeg = j := by
  unfold ix at e
  split at e
  · cases e
  · rename_i hq; cases e; exact ⟨hq, rfl⟩
theorem vI_of {v : Option Value} {x : Int32} (e : vI v = some x) : v = some (.int x) := by
  unfold vI at e
  split at e
  · cases e; rfl
  · cases e
theorem vL_of {v : Option Value} {x : Int64} (e : vL v = some x) : v = some (.long x) := by
  unfold vL at e
  split at e
  · cases e; rfl
  · cases e
theorem vR_of {v : Option Value} {x : Nat} (e : vR v = some x) : v = some (.ref x) := by
  unfold vR at e
  split at e
  · cases e; rfl
  · cases e
theorem vQ_of {v : Option Value} {x : Option Nat} (e : vQ v = some x) : v = some (va_rf x) := by
  unfold vQ at e
  split at e
  · cases e; rfl
  · cases e; rfl
  · cases e
theorem bd {α β : Type} {x : Option α} {f : α → Option β} {y : β} (h : x.bind f = some y) : ∃ a, x = some a ∧ f a = some y := Option.bind_eq_some_iff.mp h
/-- the classes' tables, by their number -/
def cOf (ci : Nat) (C : String) (T : u_T) (N : Nat) (ty : Nat → FieldType) : Prop := vwCl[ci]? = some (C, T, N) ∧ (∀ w ∈ u_ws C T N, w ∈ WT) ∧ (∀ k, k < N → parseFieldDescriptor (T k).2.2.1 = some (ty k)) ∧ (∀ a, a < N → ∀ b, b < N → a ≠ b → (T a).2.1 ≠ (T b).2.1)
section HR
variable {β : Type} {κ : Kx} {φ : β → Option Value × AH} {own : String} {cc : ByteArray} {k n pc : Nat} {L : List (Nat × Value)} {st : List Value} {h : AH}
theorem v_getV (hc : CX κ own cc) {ci : Nat} {C : String} {T : u_T} {N : Nat} {ty : Nat → FieldType} (hC : cOf ci C T N ty) (j : Nat) (hj : j < N) {idx : Nat} (hw : (Cond.fieldLink own idx C (T j).2.1 (T j).2.2.1) ∈ WT) (hown : (T j).1 = C) (hd : decode cc pc = .ok (.getfield idx, 3)) {a : Nat} {F : Option β}
    (kk : ∀ x, F = some x → ∃ fs v, hObj ci h a = some fs ∧ fs[j]? = some v ∧ V κ φ k n (pc + 3) L (v :: st) h F) : V κ φ k n pc L (.ref a :: st) h F := by
  obtain ⟨⟨p, l, e, R, s, m, args, below, meth, c⟩, D, tys, base, nL, Q⟩ := κ
  obtain ⟨hx, hb, hml, hfc, hts, hK, hty, hbs, hlk, hNW, hSC⟩ := hc
  intro x hv H locs ls hP hS hl
  obtain ⟨fs, v, h1, h2, h3⟩ := kk x hv
  exact va_get (D := D) (ref := C) hx hb hts hC.2.1 hfc hK (hP.one (obj_of h1)) 0 rfl hC.1 j hj (hts _ hw) (fun x hx => by rw [hown] at hx; exact hx) h2 hd (h3 x hv H locs ls hP hS hl)
theorem v_getVN (hc : CX κ own cc) {ci : Nat} {C : String} {T : u_T} {N : Nat} {ty : Nat → FieldType} (hC : cOf ci C T N ty) (j : Nat) (hj : j < N) {idx : Nat} {host : String} (hw : (Cond.fieldLinkNest own idx C (T j).2.1 (T j).2.2.1 host) ∈ NT) (hown : (T j).1 = C) (hd : decode cc pc = .ok (.getfield idx, 3)) {a : Nat} {F : Option β}
    (kk : ∀ x, F = some x → ∃ fs v, hObj ci h a = some fs ∧ fs[j]? = some v ∧ V κ φ k n (pc + 3) L (v :: st) h F) : V κ φ k n pc L (.ref a :: st) h F := by
  obtain ⟨⟨p, l, e, R, s, m, args, below, meth, c⟩, D, tys, base, nL, Q⟩ := κ
  obtain ⟨hx, hb, hml, hfc, hts, hK, hty, hbs, hlk, hNW, hSC⟩ := hc
  intro x hv H locs ls hP hS hl
  obtain ⟨fs, v, h1, h2, h3⟩ := kk x hv
  exact va_getN (D := D) (ref := C) hx hb hts hC.2.1 hfc hK (hP.one (obj_of h1)) 0 rfl hC.1 j hj (hNW.use hw) (fun x hx => by rw [hown] at hx; exact hx) h2 hd (h3 x hv H locs ls hP hS hl)
theorem gI {ci j a : Nat} {F : Option β} {K : Int32 → Option β} {pc' : Nat} (e : F = (fI ci j h a).bind K) (kk : ∀ v, V κ φ k n pc' L (.int v :: st) h (K v)) : ∀ x, F = some x → ∃ fs v, hObj ci h a = some fs ∧ fs[j]? = some v ∧ V κ φ k n pc' L (v :: st) h F := by
  intro x hx
  rw [e] at hx
  obtain ⟨v, h1, h2⟩ := bd hx
  obtain ⟨fs, h3, h4⟩ := bd h1
  exact ⟨fs, _, h3, vI_of h4, v_eq (by rw [e, h1]; rfl) (kk v)⟩
theorem gB {ci j a : Nat} {F : Option β} {K : Int64 → Option β} {pc' : Nat} (e : F = (fL ci j h a).bind K) (kk : ∀ v, V κ φ k n pc' L (.long v :: st) h (K v)) : ∀ x, F = some x → ∃ fs v, hObj ci h a = some fs ∧ fs[j]? = some v ∧ V κ φ k n pc' L (v :: st) h F := by
  intro x hx
  rw [e] at hx
  obtain ⟨v, h1, h2⟩ := bd hx
  obtain ⟨fs, h3, h4⟩ := bd h1
  exact ⟨fs, _, h3, vL_of h4, v_eq (by rw [e, h1]; rfl) (kk v)⟩
theorem gR {ci j a : Nat} {F : Option β} {K : Nat → Option β} {pc' : Nat} (e : F = (fR ci j h a).bind K) (kk : ∀ v, V κ φ k n pc' L (.ref v :: st) h (K v)) : ∀ x, F = some x → ∃ fs v, hObj ci h a = some fs ∧ fs[j]? = some v ∧ V κ φ k n pc' L (v :: st) h F := by
  intro x hx
  rw [e] at hx
  obtain ⟨v, h1, h2⟩ := bd hx
  obtain ⟨fs, h3, h4⟩ := bd h1
  exact ⟨fs, _, h3, vR_of h4, v_eq (by rw [e, h1]; rfl) (kk v)⟩
theorem gQ {ci j a : Nat} {F : Option β} {K : Option Nat → Option β} {pc' : Nat} (e : F = (fQ ci j h a).bind K) (kk : ∀ v, V κ φ k n pc' L (va_rf v :: st) h (K v)) : ∀ x, F = some x → ∃ fs v, hObj ci h a = some fs ∧ fs[j]? = some v ∧ V κ φ k n pc' L (v :: st) h F := by
  intro x hx
  rw [e] at hx
  obtain ⟨v, h1, h2⟩ := bd hx
  obtain ⟨fs, h3, h4⟩ := bd h1
  exact ⟨fs, _, h3, vQ_of h4, v_eq (by rw [e, h1]; rfl) (kk v)⟩
theorem vfit_i (x : Int32) : narrow .int (.int x) = .int x ∧ fits .int (.int x) = true := ⟨rfl, rfl⟩
theorem v_put (hc : CX κ own cc) {ci : Nat} {C : String} {T : u_T} {N : Nat} {ty : Nat → FieldType} (hC : cOf ci C T N ty) (j : Nat) (hj : j < N) {idx : Nat} (hw : (Cond.fieldLink own idx C (T j).2.1 (T j).2.2.1) ∈ WT) (hown : (T j).1 = C) (hfin : (T j).2.2.2 = false) (hd : decode cc pc = .ok (.putfield idx, 3)) {a : Nat} {v : Value} (hn : narrow (ty j) v = v ∧ fits (ty j) v = true) {K : AH → Option β}
    (kk : ∀ h1, V κ φ k n (pc + 3) L st h1 (K h1)) : V κ φ k n pc L (v :: .ref a :: st) h ((fS ci j h a v).bind K) := by
  obtain ⟨⟨p, l, e, R, s, m, args, below, meth, c⟩, D, tys, base, nL, Q⟩ := κ
  obtain ⟨hx, hb, hml, hfc, hts, hK, hty, hbs, hlk, hNW, hSC⟩ := hc
  intro x hv H locs ls hP hS hl
  obtain ⟨h1, hv1, hv2⟩ := bd hv
  obtain ⟨fs, hv3, hv4⟩ := bd hv1
  have ho := obj_of hv3
  split at hv4
  · rename_i hlen
    cases hv4
    have hap := va_apart (own := own) hts hC.2.1 ty hC.2.2.1 hC.2.2.2 hK hC.1
    obtain ⟨r, hr, cell, q1, q2, q3, q4⟩ := hP.at ho
    have hr : r = (C, T, N) := Option.some.inj (hr.symm.trans hC.1)
    subst hr
    obtain ⟨hSl, hfc2, kC, hkC, hkind⟩ := hK.1 ci _ hC.1
    obtain ⟨cf, kf, fi, f, hi, hsl⟩ := hSl j hj
    have hlay := hts _ (hC.2.1 _ (u_in_lay hj))
    unfold u_lay at hlay
    rw [if_neg (by rw [hfin]; decide)] at hlay
    have hst := (u_facts hfc2 hkC (u_lays hts hC.2.1 hj) hi).1
    have h6 := u_store hfc2 hkC hkind hlay hi (hC.2.2.1 j hj) hn.1 hn.2
    refine W.putK hx hb (f := f) ⟨hfc, hts _ hw, ⟨_, _, _, (by rw [← hown]; exact hi)⟩, hst⟩ (by rw [q2]; exact h6) q1 q3 (by rw [hsl]; exact k2_hasslot (q4 j hj)) rfl rfl hd fun H' e1 e2 e3 => ?_
    rw [hsl] at e1 ⊢
    exact kk _ x hv2 H' _ ls (hP.set ho ⟨_, hC.1, t_OB.to (V := updV (vp_V fs) j v) ⟨_, e1, q2, q3, t_set q4 hap hj v⟩ (fun i _ => vp_updV_set hlen v i)⟩ e2 e3) (hS.put e2 e3 (hP.2.2 a _ ho).1) hl
  · cases hv4
theorem v_putN (hc : CX κ own cc) {ci : Nat} {C : String} {T : u_T} {N : Nat} {ty : Nat → FieldType} (hC : cOf ci C T N ty) (j : Nat) (hj : j < N) {idx : Nat} {host : String} (hw : (Cond.fieldLinkNest own idx C (T j).2.1 (T j).2.2.1 host) ∈ NT) (hown : (T j).1 = C) (hfin : (T j).2.2.2 = false) (hd : decode cc pc = .ok (.putfield idx, 3)) {a : Nat} {v : Value} (hn : narrow (ty j) v = v ∧ fits (ty j) v = true) {K : AH → Option β}
    (kk : ∀ h1, V κ φ k n (pc + 3) L st h1 (K h1)) : V κ φ k n pc L (v :: .ref a :: st) h ((fS ci j h a v).bind K) := by
  obtain ⟨⟨p, l, e, R, s, m, args, below, meth, c⟩, D, tys, base, nL, Q⟩ := κ
  obtain ⟨hx, hb, hml, hfc, hts, hK, hty, hbs, hlk, hNW, hSC⟩ := hc
  intro x hv H locs ls hP hS hl
  obtain ⟨h1, hv1, hv2⟩ := bd hv
  obtain ⟨fs, hv3, hv4⟩ := bd hv1
  have ho := obj_of hv3
  split at hv4
  · rename_i hlen
    cases hv4
    have hap := va_apart (own := own) hts hC.2.1 ty hC.2.2.1 hC.2.2.2 hK hC.1
    obtain ⟨r, hr, cell, q1, q2, q3, q4⟩ := hP.at ho
    have hr : r = (C, T, N) := Option.some.inj (hr.symm.trans hC.1)
    subst hr
    obtain ⟨hSl, hfc2, kC, hkC, hkind⟩ := hK.1 ci _ hC.1
    obtain ⟨cf, kf, fi, f, hi, hsl⟩ := hSl j hj
    have hlay := hts _ (hC.2.1 _ (u_in_lay hj))
    unfold u_lay at hlay
    rw [if_neg (by rw [hfin]; decide)] at hlay
    have hst := (u_facts hfc2 hkC (u_lays hts hC.2.1 hj) hi).1
    have h6 := u_store hfc2 hkC hkind hlay hi (hC.2.2.1 j hj) hn.1 hn.2
    refine va_WputK hx hb (f := f) hfc (hNW.use hw) (by rw [← hown]; exact hi) hst (by rw [q2]; exact h6) q1 q3 (by rw [hsl]; exact k2_hasslot (q4 j hj)) rfl rfl hd fun H' e1 e2 e3 => ?_
    rw [hsl] at e1 ⊢
    exact kk _ x hv2 H' _ ls (hP.set ho ⟨_, hC.1, t_OB.to (V := updV (vp_V fs) j v) ⟨_, e1, q2, q3, t_set q4 hap hj v⟩ (fun i _ => vp_updV_set hlen v i)⟩ e2 e3) (hS.put e2 e3 (hP.2.2 a _ ho).1) hl
  · cases hv4
/-- a final field in its class's constructor -/
def IN (κ : Kx) : Prop := κ.1.2.2.2.2.2.2.2.2.1.name = "<init>"
theorem v_putF (hc : CX κ own cc) (hin : IN κ) {ci : Nat} {C : String} {T : u_T} {N : Nat} {ty : Nat → FieldType} (hC : cOf ci C T N ty) (j : Nat) (hj : j < N) {idx : Nat} (hw : (Cond.fieldLink own idx C (T j).2.1 (T j).2.2.1) ∈ WT) (hown : (T j).1 = C) (hcl : C = own) (hfin : (T j).2.2.2 = true) (hd : decode cc pc = .ok (.putfield idx, 3)) {a : Nat} {v : Value} (hn : narrow (ty j) v = v ∧ fits (ty j) v = true) {K : AH → Option β}
    (kk : ∀ h1, V κ φ k n (pc + 3) L st h1 (K h1)) : V κ φ k n pc L (v :: .ref a :: st) h ((fS ci j h a v).bind K) := by
  obtain ⟨⟨p, l, e, R, s, m, args, below, meth, c⟩, D, tys, base, nL, Q⟩ := κ
  obtain ⟨hx, hb, hml, hfc, hts, hK, hty, hbs, hlk, hNW, hSC⟩ := hc
  intro x hv H locs ls hP hS hl
  obtain ⟨h1, hv1, hv2⟩ := bd hv
  obtain ⟨fs, hv3, hv4⟩ := bd hv1
  have ho := obj_of hv3
  split at hv4
  · rename_i hlen
    cases hv4
    have hap := va_apart (own := own) hts hC.2.1 ty hC.2.2.1 hC.2.2.2 hK hC.1
    obtain ⟨r, hr, cell, q1, q2, q3, q4⟩ := hP.at ho
    have hr : r = (C, T, N) := Option.some.inj (hr.symm.trans hC.1)
    subst hr
    obtain ⟨hSl, hfc2, kC, hkC, hkind⟩ := hK.1 ci _ hC.1
    obtain ⟨cf, kf, fi, f, hi, hsl⟩ := hSl j hj
    have hlay := hts _ (hC.2.1 _ (u_in_lay hj))
    unfold u_lay at hlay
    rw [if_pos hfin] at hlay
    have hst := (u_facts hfc2 hkC (u_lays hts hC.2.1 hj) hi).1
    have hcf : m.cls = cf := by
      obtain ⟨_, _, c', _, _, _, -, -, hf', -, -, -, hown2, -⟩ := Cond.laysFinal_spec hlay
      have e1 : c' = cf := by have := hi.symm.trans hf'; simp at this; exact this.1.symm
      rw [hown, hcl] at hown2
      rw [← e1]; exact Option.some.inj (hfc.symm.trans hown2)
    have h6 := u_fits hfc2 hkC hkind (Or.inr hlay) hi (hC.2.2.1 j hj) hn.1 hn.2
    refine W.putFinK hx hb hfc (hts _ hw) (by rw [← hown]; exact hi) hst hcf hin (by rw [q2]; exact h6) q1 q3 (by rw [hsl]; exact k2_hasslot (q4 j hj)) rfl rfl hd fun H' e1 e2 e3 => ?_
    rw [hsl] at e1 ⊢
    exact kk _ x hv2 H' _ ls (hP.set ho ⟨_, hC.1, t_OB.to (V := updV (vp_V fs) j v) ⟨_, e1, q2, q3, t_set q4 hap hj v⟩ (fun i _ => vp_updV_set hlen v i)⟩ e2 e3) (hS.put e2 e3 (hP.2.2 a _ ho).1) hl
  · cases hv4
end HR
section AR
variable {β : Type} {κ : Kx} {φ : β → Option Value × AH} {own : String} {cc : ByteArray} {k n pc : Nat} {L : List (Nat × Value)} {st : List Value} {h : AH}
theorem v_iald (hc : CX κ own cc) {a : Nat} {i : Int32} {K : Int32 → Option β} (hd : decode cc pc = .ok (.iaload, 1)) (kk : ∀ v, V κ φ k n (pc + 1) L (.int v :: st) h (K v)) : V κ φ k n pc L (.int i :: .ref a :: st) h ((aI 0 h a i).bind K) := by
  obtain ⟨⟨p, l, e, R, s, m, args, below, meth, c⟩, D, tys, base, nL, Q⟩ := κ
  obtain ⟨hx, hb, hml, hfc, hts, hK, hty, hbs, hlk, hNW, hSC⟩ := hc
  intro x hv H locs ls hP hS hl
  obtain ⟨w, hv1, hv2⟩ := bd hv
  obtain ⟨⟨N, f⟩, hv3, hv4⟩ := bd hv1
  obtain ⟨j, hv5, hv6⟩ := bd hv4
  cases hv6
  obtain ⟨hin, rfl⟩ := ix_of hv5
  exact va_iald hx hb hK (hP.one (xI_of hv3)) 0 0 rfl (tys_at hty 0 rfl) hin hd (kk _ x hv2 H locs ls hP hS hl)
theorem v_bald (hc : CX κ own cc) {a : Nat} {i : Int32} {K : Int32 → Option β} (hd : decode cc pc = .ok (.baload, 1)) (kk : ∀ v, V κ φ k n (pc + 1) L (.int v :: st) h (K v)) : V κ φ k n pc L (.int i :: .ref a :: st) h ((aI 2 h a i).bind K) := by
  obtain ⟨⟨p, l, e, R, s, m, args, below, meth, c⟩, D, tys, base, nL, Q⟩ := κ
  obtain ⟨hx, hb, hml, hfc, hts, hK, hty, hbs, hlk, hNW, hSC⟩ := hc
  intro x hv H locs ls hP hS hl
  obtain ⟨w, hv1, hv2⟩ := bd hv
  obtain ⟨⟨N, f⟩, hv3, hv4⟩ := bd hv1
  obtain ⟨j, hv5, hv6⟩ := bd hv4
  cases hv6
  obtain ⟨hin, rfl⟩ := ix_of hv5
  exact va_bald hx hb hK (hP.one (xI_of hv3)) 0 2 rfl (tys_at hty 2 rfl) hin hd (kk _ x hv2 H locs ls hP hS hl)
theorem v_zald (hc : CX κ own cc) {a : Nat} {i : Int32} {K : Int32 → Option β} (hd : decode cc pc = .ok (.baload, 1)) (kk : ∀ v, V κ φ k n (pc + 1) L (.int v :: st) h (K v)) : V κ φ k n pc L (.int i :: .ref a :: st) h ((aI 3 h a i).bind K) := by
  obtain ⟨⟨p, l, e, R, s, m, args, below, meth, c⟩, D, tys, base, nL, Q⟩ := κ
  obtain ⟨hx, hb, hml, hfc, hts, hK, hty, hbs, hlk, hNW, hSC⟩ := hc
  intro x hv H locs ls hP hS hl
  obtain ⟨w, hv1, hv2⟩ := bd hv
  obtain ⟨⟨N, f⟩, hv3, hv4⟩ := bd hv1
  obtain ⟨j, hv5, hv6⟩ := bd hv4
  cases hv6
  obtain ⟨hin, rfl⟩ := ix_of hv5
  exact va_zald hx hb hK (hP.one (xI_of hv3)) 0 3 rfl (tys_at hty 3 rfl) hin hd (kk _ x hv2 H locs ls hP hS hl)
theorem v_lald (hc : CX κ own cc) {a : Nat} {i : Int32} {K : Int64 → Option β} (hd : decode cc pc = .ok (.laload, 1)) (kk : ∀ v, V κ φ k n (pc + 1) L (.long v :: st) h (K v)) : V κ φ k n pc L (.int i :: .ref a :: st) h ((aL' h a i).bind K) := by
  obtain ⟨⟨p, l, e, R, s, m, args, below, meth, c⟩, D, tys, base, nL, Q⟩ := κ
  obtain ⟨hx, hb, hml, hfc, hts, hK, hty, hbs, hlk, hNW, hSC⟩ := hc
  intro x hv H locs ls hP hS hl
  obtain ⟨w, hv1, hv2⟩ := bd hv
  obtain ⟨⟨N, f⟩, hv3, hv4⟩ := bd hv1
  obtain ⟨j, hv5, hv6⟩ := bd hv4
  cases hv6
  obtain ⟨hin, rfl⟩ := ix_of hv5
  exact va_lald hx hb hK (hP.one (xL_of hv3)) 0 1 rfl (tys_at hty 1 rfl) hin hd (kk _ x hv2 H locs ls hP hS hl)
theorem v_aald (t : Nat) {C : String} (ht : TYL[t]? = some (.object C)) (hc : CX κ own cc) {a : Nat} {i : Int32} {K : Option Nat → Option β} (hd : decode cc pc = .ok (.aaload, 1)) (kk : ∀ v, V κ φ k n (pc + 1) L (va_rf v :: st) h (K v)) : V κ φ k n pc L (.int i :: .ref a :: st) h ((aQ t h a i).bind K) := by
  obtain ⟨⟨p, l, e, R, s, m, args, below, meth, c⟩, D, tys, base, nL, Q⟩ := κ
  obtain ⟨hx, hb, hml, hfc, hts, hK, hty, hbs, hlk, hNW, hSC⟩ := hc
  intro x hv H locs ls hP hS hl
  obtain ⟨w, hv1, hv2⟩ := bd hv
  obtain ⟨⟨N, f⟩, hv3, hv4⟩ := bd hv1
  obtain ⟨j, hv5, hv6⟩ := bd hv4
  cases hv6
  obtain ⟨hin, rfl⟩ := ix_of hv5
  exact va_aldq hx hb hK (hP.one (xQ_of hv3)) 0 t rfl (tys_at hty t ht) hin hd (kk _ x hv2 H locs ls hP hS hl)
theorem v_alen (hc : CX κ own cc) {a : Nat} {K : Int32 → Option β} (hd : decode cc pc = .ok (.arraylength, 1)) (kk : ∀ v, V κ φ k n (pc + 1) L (.int v :: st) h (K v)) : V κ φ k n pc L (.ref a :: st) h ((aN h a).bind K) := by
  obtain ⟨⟨p, l, e, R, s, m, args, below, meth, c⟩, D, tys, base, nL, Q⟩ := κ
  obtain ⟨hx, hb, hml, hfc, hts, hK, hty, hbs, hlk, hNW, hSC⟩ := hc
  intro x hv H locs ls hP hS hl
  obtain ⟨w, hv1, hv2⟩ := bd hv
  unfold aN at hv1
  split at hv1
  · rename_i t y he
    split at hv1
    · rename_i hlt
      cases hv1
      obtain ⟨ty, hq⟩ : ∃ ty, TYL[t]? = some ty := ⟨TYL[t]'hlt, List.getElem?_eq_getElem hlt⟩
      exact va_alen hx hb hK (hP.one he) 0 t rfl (tys_at hty t hq) rfl hd (kk _ x hv2 H locs ls hP hS hl)
    · cases hv1
  · cases hv1
theorem vp_up_i (cA : ClassId) (N j : Nat) (f : Nat → Int32) (x : Int32) : (vp_cell cA (N, .inl f)).setSlot j (.int x) = vp_cell cA (N, .inl (upd f j x)) := by
  rw [vp_cell_i, vp_cell_i, arrV_store]
  congr 1
  funext q
  by_cases hq : q = j
  · subst hq; simp [updV, upd]
  · simp [updV, upd, hq]
theorem vp_up_l (cA : ClassId) (N j : Nat) (f : Nat → Int64) (x : Int64) : (vp_cell cA (N, .inr (.inl f))).setSlot j (.long x) = vp_cell cA (N, .inr (.inl (vp_updL f j x))) := by
  rw [vp_cell_l, vp_cell_l, arrV_store]
  congr 1
  funext q
  by_cases hq : q = j
  · subst hq; simp [updV, vp_updL]
  · simp [updV, vp_updL, hq]
theorem vp_up_q (cA : ClassId) (N j : Nat) (f : Nat → Option Nat) (x : Option Nat) : (vp_cell cA (N, .inr (.inr (.inr (.inr f))))).setSlot j (va_rf x) = vp_cell cA (N, .inr (.inr (.inr (.inr (va_up f j x))))) := by
  rw [vp_cell_q, vp_cell_q, arrV_store]
  congr 1
  funext q
  by_cases hq : q = j
  · subst hq; simp [updV, va_up]
  · simp [updV, va_up, hq]
theorem v_iast (hc : CX κ own cc) {a : Nat} {i v : Int32} {K : AH → Option β} (hd : decode cc pc = .ok (.iastore, 1)) (kk : ∀ h1, V κ φ k n (pc + 1) L st h1 (K h1)) : V κ φ k n pc L (.int v :: .int i :: .ref a :: st) h ((sI 0 h a i v).bind K) := by
  obtain ⟨⟨p, l, e, R, s, m, args, below, meth, c⟩, D, tys, base, nL, Q⟩ := κ
  obtain ⟨hx, hb, hml, hfc, hts, hK, hty, hbs, hlk, hNW, hSC⟩ := hc
  intro x hv H locs ls hP hS hl
  obtain ⟨w, hv1, hv2⟩ := bd hv
  obtain ⟨⟨N, f⟩, hv3, hv4⟩ := bd hv1
  obtain ⟨j, hv5, hv6⟩ := bd hv4
  cases hv6
  obtain ⟨hin, rfl⟩ := ix_of hv5
  have ho := xI_of hv3
  refine W.iast hx hb (hP.at ho) ((hK.2 0 _ (tys_at hty 0 rfl)).1 N (fun j => .int (f j))) (fun q => by cases q) (by show ¬ (i < 0 ∨ (arrV _ _ _).slots.size ≤ _); rw [arrV_size]; exact hin) rfl rfl hd fun H1 e1 z oq => ?_
  exact kk _ x hv2 H1 _ ls (hP.set ho (by rw [vp_up_i] at e1; exact e1) z oq) (hS.put z oq (hP.2.2 a _ ho).1) hl
theorem v_bast (hc : CX κ own cc) {a : Nat} {i v : Int32} {K : AH → Option β} (hd : decode cc pc = .ok (.bastore, 1)) (kk : ∀ h1, V κ φ k n (pc + 1) L st h1 (K h1)) : V κ φ k n pc L (.int v :: .int i :: .ref a :: st) h ((sI 2 h a i (vp_nar .byte v)).bind K) := by
  obtain ⟨⟨p, l, e, R, s, m, args, below, meth, c⟩, D, tys, base, nL, Q⟩ := κ
  obtain ⟨hx, hb, hml, hfc, hts, hK, hty, hbs, hlk, hNW, hSC⟩ := hc
  intro x hv H locs ls hP hS hl
  obtain ⟨w, hv1, hv2⟩ := bd hv
  obtain ⟨⟨N, f⟩, hv3, hv4⟩ := bd hv1
  obtain ⟨j, hv5, hv6⟩ := bd hv4
  cases hv6
  obtain ⟨hin, rfl⟩ := ix_of hv5
  have ho := xI_of hv3
  refine W.bast hx hb (hP.at ho) ((hK.2 2 _ (tys_at hty 2 rfl)).1 N (fun j => .int (f j))) (fun q => by cases q) (by show ¬ (i < 0 ∨ (arrV _ _ _).slots.size ≤ _); rw [arrV_size]; exact hin) rfl rfl hd fun H1 e1 z oq => ?_
  exact kk _ x hv2 H1 _ ls (hP.set ho (by rw [show narrow .byte (.int v) = .int (vp_nar .byte v) from rfl, vp_up_i] at e1; exact e1) z oq) (hS.put z oq (hP.2.2 a _ ho).1) hl
theorem v_zast (hc : CX κ own cc) {a : Nat} {i v : Int32} {K : AH → Option β} (hd : decode cc pc = .ok (.bastore, 1)) (kk : ∀ h1, V κ φ k n (pc + 1) L st h1 (K h1)) : V κ φ k n pc L (.int v :: .int i :: .ref a :: st) h ((sI 3 h a i (vp_nar .boolean v)).bind K) := by
  obtain ⟨⟨p, l, e, R, s, m, args, below, meth, c⟩, D, tys, base, nL, Q⟩ := κ
  obtain ⟨hx, hb, hml, hfc, hts, hK, hty, hbs, hlk, hNW, hSC⟩ := hc
  intro x hv H locs ls hP hS hl
  obtain ⟨w, hv1, hv2⟩ := bd hv
  obtain ⟨⟨N, f⟩, hv3, hv4⟩ := bd hv1
  obtain ⟨j, hv5, hv6⟩ := bd hv4
  cases hv6
  obtain ⟨hin, rfl⟩ := ix_of hv5
  have ho := xI_of hv3
  refine W.zast hx hb (hP.at ho) ((hK.2 3 _ (tys_at hty 3 rfl)).1 N (fun j => .int (f j))) (fun q => by cases q) (by show ¬ (i < 0 ∨ (arrV _ _ _).slots.size ≤ _); rw [arrV_size]; exact hin) rfl rfl hd fun H1 e1 z oq => ?_
  exact kk _ x hv2 H1 _ ls (hP.set ho (by rw [show narrow .boolean (.int v) = .int (vp_nar .boolean v) from rfl, vp_up_i] at e1; exact e1) z oq) (hS.put z oq (hP.2.2 a _ ho).1) hl
theorem v_last (hc : CX κ own cc) {a : Nat} {i : Int32} {v : Int64} {K : AH → Option β} (hd : decode cc pc = .ok (.lastore, 1)) (kk : ∀ h1, V κ φ k n (pc + 1) L st h1 (K h1)) : V κ φ k n pc L (.long v :: .int i :: .ref a :: st) h ((sL h a i v).bind K) := by
  obtain ⟨⟨p, l, e, R, s, m, args, below, meth, c⟩, D, tys, base, nL, Q⟩ := κ
  obtain ⟨hx, hb, hml, hfc, hts, hK, hty, hbs, hlk, hNW, hSC⟩ := hc
  intro x hv H locs ls hP hS hl
  obtain ⟨w, hv1, hv2⟩ := bd hv
  obtain ⟨⟨N, f⟩, hv3, hv4⟩ := bd hv1
  obtain ⟨j, hv5, hv6⟩ := bd hv4
  cases hv6
  obtain ⟨hin, rfl⟩ := ix_of hv5
  have ho := xL_of hv3
  refine W.last hx hb (hP.at ho) ((hK.2 1 _ (tys_at hty 1 rfl)).1 N (fun j => .long (f j))) (fun q => by cases q) (by show ¬ (i < 0 ∨ (arrV _ _ _).slots.size ≤ _); rw [arrV_size]; exact hin) rfl rfl hd fun H1 e1 z oq => ?_
  exact kk _ x hv2 H1 _ ls (hP.set ho (by rw [vp_up_l] at e1; exact e1) z oq) (hS.put z oq (hP.2.2 a _ ho).1) hl
theorem v_aast (t ci : Nat) {C : String} {T : u_T} {N0 : Nat} (ht : TYL[t]? = some (.object C)) (hci : vwCl[ci]? = some (C, T, N0)) (hc : CX κ own cc) {a v : Nat} {i : Int32} {K : AH → Option β} (hd : decode cc pc = .ok (.aastore, 1)) (kk : ∀ h1, V κ φ k n (pc + 1) L st h1 (K h1)) : V κ φ k n pc L (.ref v :: .int i :: .ref a :: st) h ((sR t ci h a i v).bind K) := by
  obtain ⟨⟨p, l, e, R, s, m, args, below, meth, c⟩, D, tys, base, nL, Q⟩ := κ
  obtain ⟨hx, hb, hml, hfc, hts, hK, hty, hbs, hlk, hNW, hSC⟩ := hc
  intro x hv H locs ls hP hS hl
  obtain ⟨w, hv1, hv2⟩ := bd hv
  obtain ⟨⟨N, f⟩, hv3, hv4⟩ := bd hv1
  obtain ⟨j, hv5, hv6⟩ := bd hv4
  obtain ⟨vs, hv7, hv8⟩ := bd hv6
  cases hv8
  obtain ⟨hin, rfl⟩ := ix_of hv5
  have ho := xQ_of hv3
  have hlt : i.toNatClampNeg < N := Nat.not_le.mp fun q => hin (Or.inr q)
  have h0 : ¬ i < 0 := fun q => hin (Or.inl q)
  obtain ⟨r', hr', cellV, g1, g2, g3, -⟩ := hP.at (obj_of hv7)
  have hcls := (hK.1 ci _ hci).2
  obtain ⟨kA, comp, k1, k2, k3, -⟩ := (hK.2 t _ (tys_at hty t ht)).2
  have hcomp : comp = D.1 ci := Option.some.inj (k3.symm.trans hcls.1)
  subst hcomp
  obtain ⟨kC, hkC, -⟩ := hcls.2
  refine W.aast hx hb (hP.at ho) (fun q h => by cases h) (fun h => by cases h) k1 k2 rfl hkC ⟨h0, by show _ < (arrV _ _ _).slots.size; rw [arrV_size]; exact hlt⟩ g1 (fun q h => by rw [g3] at h; cases h) (by rw [g2]; exact hkC) (by rw [g2]; exact va_assign hcls) rfl rfl hd fun H1 e1 z oq => ?_
  exact kk _ x hv2 H1 _ ls (hP.set ho (by rw [show (Value.ref v) = va_rf (some v) from rfl, vp_up_q] at e1; exact e1) z oq) (hS.put z oq (hP.2.2 a _ ho).1) hl
def nO (ci : Nat) (fs : List Value) (h : AH) : Option (Nat × AH) := some (h.1, hN h (.inr (ci, fs)))
theorem v_new (hc : CX κ own cc) {rm : Room} (hr : RX κ rm) {ci : Nat} {C : String} {T : u_T} {N : Nat} {ty : Nat → FieldType} (hC : cOf ci C T N ty) {idx : Nat} (hw : Cond.classLink own idx C ∈ WT) (hi : Cond.instantiable C N ∈ WT) (hn : Cond.initialized C ∈ WT) {fs : List Value} (hfs : ∀ j, j < N → defaultValue (ty j) = vp_V fs j) (hk1 : k + 1 ≤ rm.cells) (hn1 : n + N ≤ rm.slots) {K : Nat × AH → Option β} (hd : decode cc pc = .ok (.new idx, 3))
    (kk : ∀ y : Nat × AH, V κ φ (k + 1) (n + N) (pc + 3) L (.ref y.1 :: st) y.2 (K y)) : V κ φ k n pc L st h ((nO ci fs h).bind K) := by
  obtain ⟨⟨p, l, e, R, s, m, args, below, meth, c⟩, D, tys, base, nL, Q⟩ := κ
  obtain ⟨hx, hb, hml, hfc, hts, hK, hty, hbs, hlk, hNW, hSC⟩ := hc
  have hr : R = rm := hr
  subst hr
  intro x hv H locs ls hP hS hl
  have hKn := hK.1 ci _ hC.1
  refine W.newcK hx hb hfc (hts _ hw) (hts _ hi) (hts _ hn) rfl hd hk1 hn1 hKn.2.1 rfl fun H1 kC hkC e1 z1 o1 => ?_
  have q := kk (h.1, hN h (.inr (ci, fs))) x hv H1 locs ls (hP.new ⟨_, hC.1, (u_born ty hts hC.2.1 hKn hkC e1 hC.2.2.1).to hfs⟩ z1 o1) ⟨Nat.le_trans hS.1 (by omega), fun y h1 h2 => (o1 y (Nat.lt_of_lt_of_le h1 hS.1)).trans (hS.2.1 y h1 h2), hS.2.2⟩ hl
  rw [← hP.1]
  exact q
theorem cBy (a : ArrayType) : componentBytes (newarray.typeOf a) ≤ 8 := by cases a <;> decide
def nB (t B : Nat) (h : AH) (z : Int32) : Option (Nat × AH) := if z < 0 ∨ B < z.toNatClampNeg then none else nA t h z
theorem v_newa (t B : Nat) {at' : ArrayType} (hta : TYL[t]? = some (newarray.typeOf at')) (hsm : t < 4) (hc : CX κ own cc) {rm : Room} (hr : RX κ rm) (hw : Cond.arrayClass (newarray.typeOf at') ∈ WT) (hB : B * 8 ≤ 536870912) (hk1 : k + 1 ≤ rm.cells) (hn1 : n + B ≤ rm.slots) {z : Int32} {K : Nat × AH → Option β} (hd : decode cc pc = .ok (.newarray at', 2))
    (kk : ∀ y : Nat × AH, V κ φ (k + 1) (n + B) (pc + 2) L (.ref y.1 :: st) y.2 (K y)) : V κ φ k n pc L (.int z :: st) h ((nB t B h z).bind K) := by
  obtain ⟨⟨p, l, e, R, s, m, args, below, meth, c⟩, D, tys, base, nL, Q⟩ := κ
  obtain ⟨hx, hb, hml, hfc, hts, hK, hty, hbs, hlk, hNW, hSC⟩ := hc
  have hr : R = rm := hr
  subst hr
  intro x hv H locs ls hP hS hl
  unfold nB at hv
  split at hv
  · cases hv
  · rename_i hz
    have hz0 : ¬ z < 0 := fun q => hz (Or.inl q)
    have hzB : z.toNatClampNeg ≤ B := Nat.not_lt.mp fun q => hz (Or.inr q)
    have hb8 : z.toNatClampNeg * componentBytes (newarray.typeOf at') ≤ 536870912 := Nat.le_trans (Nat.mul_le_mul hzB (cBy at')) hB
    refine va_newaK hx hb (hts _ hw) rfl hd rfl hz0 rfl hb8 hk1 (by omega) rfl fun H1 cA e1 z1 o1 hAr hNm => ?_
    refine W.widen (k := k + 1) (n := n + B) (Nat.le_refl _) (by omega) ?_
    have hcA : cA = (tys.getD t (0, .int)).1 := by
      have hq := (hK.2 t _ (tys_at hty t hta)).2
      have hq2 : s.vm.findClass ("[" ++ (newarray.typeOf at').toString) = some (tys.getD t (0, .int)).1 := by cases at' <;> exact hq
      exact Option.some.inj (hNm.symm.trans hq2)
    subst hcA
    have hS1 : va_S (fun q => base ≤ q) s.heap H1 locs := ⟨Nat.le_trans hS.1 (by omega), fun y h1 h2 => (o1 y (Nat.lt_of_lt_of_le h1 hS.1)).trans (hS.2.1 y h1 h2), hS.2.2⟩
    match t, hsm with
    | 0, _ =>
      have q := kk (h.1, hN h (.inl (0, z.toNatClampNeg, .inl fun _ => 0))) x (by unfold nA at hv; rw [if_neg hz0] at hv; exact hv) H1 locs ls (hP.new (show H1[H.size]? = some (vp_cell _ _) by rw [e1]; cases at' <;> first | rfl | (exact absurd hta (by decide))) z1 o1) hS1 hl
      rw [← hP.1]; exact q
    | 1, _ =>
      have q := kk (h.1, hN h (.inl (1, z.toNatClampNeg, .inr (.inl fun _ => 0)))) x (by unfold nA at hv; rw [if_neg hz0] at hv; exact hv) H1 locs ls (hP.new (show H1[H.size]? = some (vp_cell _ _) by rw [e1]; cases at' <;> first | rfl | (exact absurd hta (by decide))) z1 o1) hS1 hl
      rw [← hP.1]; exact q
    | 2, _ =>
      have q := kk (h.1, hN h (.inl (2, z.toNatClampNeg, .inl fun _ => 0))) x (by unfold nA at hv; rw [if_neg hz0] at hv; exact hv) H1 locs ls (hP.new (show H1[H.size]? = some (vp_cell _ _) by rw [e1]; cases at' <;> first | rfl | (exact absurd hta (by decide))) z1 o1) hS1 hl
      rw [← hP.1]; exact q
    | 3, _ =>
      have q := kk (h.1, hN h (.inl (3, z.toNatClampNeg, .inl fun _ => 0))) x (by unfold nA at hv; rw [if_neg hz0] at hv; exact hv) H1 locs ls (hP.new (show H1[H.size]? = some (vp_cell _ _) by rw [e1]; cases at' <;> first | rfl | (exact absurd hta (by decide))) z1 o1) hS1 hl
      rw [← hP.1]; exact q
def nQ (t B : Nat) (h : AH) (z : Int32) : Option (Nat × AH) := if z < 0 ∨ B < z.toNatClampNeg then none else some (h.1, hN h (.inl (t, z.toNatClampNeg, .inr (.inr (.inr (.inr fun _ => none))))))
theorem v_newq (t B : Nat) {C : String} (hta : TYL[t]? = some (.object C)) (hc : CX κ own cc) {rm : Room} (hr : RX κ rm) {idx : Nat} (hw : Cond.classLink own idx C ∈ WT) (ho : Cond.arrayOver (.object C) ∈ NT) (hB : B * 8 ≤ 536870912) (hk1 : k + 1 ≤ rm.cells) (hn1 : n + B ≤ rm.slots) {z : Int32} {K : Nat × AH → Option β} (hd : decode cc pc = .ok (.anewarray idx, 3))
    (kk : ∀ y : Nat × AH, V κ φ (k + 1) (n + B) (pc + 3) L (.ref y.1 :: st) y.2 (K y)) : V κ φ k n pc L (.int z :: st) h ((nQ t B h z).bind K) := by
  obtain ⟨⟨p, l, e, R, s, m, args, below, meth, c⟩, D, tys, base, nL, Q⟩ := κ
  obtain ⟨hx, hb, hml, hfc, hts, hK, hty, hbs, hlk, hNW, hSC⟩ := hc
  have hr : R = rm := hr
  subst hr
  intro x hv H locs ls hP hS hl
  unfold nQ at hv
  split at hv
  · cases hv
  · rename_i hz
    have hz0 : ¬ z < 0 := fun q => hz (Or.inl q)
    have hzB : z.toNatClampNeg ≤ B := Nat.not_lt.mp fun q => hz (Or.inr q)
    refine W.anew hx hb hfc (hts _ hw) (hNW.use ho) rfl hd rfl hz0 (by omega) hk1 (by omega) fun cA kA comp f1 f2 f3 f4 => ?_
    generalize hH1 : H.push ({ cls := cA, slots := Array.replicate z.toNatClampNeg .null, vm := .none } : Cell) = H1
    have z1 : H1.size = H.size + 1 := by rw [← hH1, Array.size_push]
    have e1 : H1[H.size]? = some (arrV cA z.toNatClampNeg (fun _ => .null)) := by rw [← hH1, Array.getElem?_push_size, ← arrV_new]
    have o1 : ∀ q : Nat, q < H.size → H1[q]? = H[q]? := fun q hq => by rw [← hH1, Array.getElem?_push, if_neg (Nat.ne_of_lt hq)]
    have hcA : cA = (tys.getD t (0, .int)).1 := by
      obtain ⟨_, _, -, -, -, hq⟩ := (hK.2 t _ (tys_at hty t hta)).2
      exact Option.some.inj (f1.symm.trans hq)
    subst hcA
    refine W.widen (k := k + 1) (n := n + B) (Nat.le_refl _) (by omega) ?_
    have q := kk (h.1, hN h (.inl (t, z.toNatClampNeg, .inr (.inr (.inr (.inr fun _ => none)))))) x hv H1 locs ls (hP.new (show H1[H.size]? = some (vp_cell _ _) by rw [vp_cell_q]; exact e1) z1 o1) ⟨Nat.le_trans hS.1 (by omega), fun y h1 h2 => (o1 y (Nat.lt_of_lt_of_le h1 hS.1)).trans (hS.2.1 y h1 h2), hS.2.2⟩ hl
    rw [← hP.1]
    exact q
end AR
/-! calls and returns -/
def Ct {β : Type} (l : Launch) (D : va_G) (tys : Tys) (base : Nat) (y : MethodName) (bytes : ByteArray) (maxL : Nat) (ret : Option FieldType) (fr lo mc ms : Nat) (As : List Value) (h : AH) (φ : β → Option Value × AH) (F : Option β) : Prop :=
  ∀ x, F = some x → tys.map Prod.snd = TYL → Met l y (.code y bytes maxL ret :: WT) ({ frames := fr, cells := mc, slots := ms, locals := lo } : Room) (va_Pc As (fun U => HP D tys base h U.heap ∧ va_K D vwCl tys U ∧ NW U ∧ SC base U)) (Post D tys base (φ x).1 (φ x).2) mc ms (fun q => base ≤ q)
theorem Ct.intro {β : Type} {l : Launch} {D : va_G} {tys : Tys} {base : Nat} {y : MethodName} {cc : ByteArray} {maxL : Nat} {ret : Option FieldType} {fr lo mc ms : Nat} {As : List Value} {h : AH} {φ : β → Option Value × AH} {F : Option β} {own : String} (hown : y.cls = own) (hy : plainName y.cls = true) {L : List (Nat × Value)} (hL : lv_args 0 As = L) (hlen : (lg_sl As).length ≤ maxL)
    (body : ∀ κ : Kx, CX κ own cc → RX κ ({ frames := fr, cells := mc, slots := ms, locals := lo } : Room) → QX κ ret mc ms → (y.name = "<init>" → IN κ) → maxL = κ.2.2.2.2.1 → V κ φ 0 0 0 L [] h F) : Ct l D tys base y cc maxL ret fr lo mc ms As h φ F := by
  intro x hx hty
  refine Met.ofW (cc := cc) (maxL := maxL) (ret := ret) hy rfl ?_
  intro p e s m args below meth c s₁ B hml hv
  obtain ⟨rfl, hP, hK, hNW, hSC⟩ := hv
  have hts := atoms_spec (ws := .code y cc maxL ret :: WT) B.pre
  have hfc : s.vm.findClass own = some m.cls := hown ▸ findClass_of_methodNamed B.named
  have hl := lv_entry As (n := maxL) hlen
  rw [lg_entry_eq]
  have q := body ((p, l, e, ({ frames := fr, cells := mc, slots := ms, locals := lo } : Room), s, m, As.toArray, below, meth, c), (D, tys, base, maxL, fun r h' => MQ below (Post D tys base r h') As.toArray s mc ms (fun q => base ≤ q)))
    ⟨B.exec, B.bytes, hml, hfc, fun w hw => hts w (List.mem_cons_of_mem _ hw), hK, hty, by rw [← hP.1]; exact hP.2.1, B.notSynchronized, hNW, hSC⟩ rfl ⟨B.returns, rfl⟩ (fun hi => ((name_of_methodNamed B.named B.method).1).trans hi) rfl
  exact q x hx s.heap [] _ hP va_S.rf (hL ▸ hl)
def CR {γ : Type} (κ : Kx) (k n pc : Nat) (L : List (Nat × Value)) (st0 rest : List Value) (mc ms : Nat) (h : AH) (ψ : γ → Option Value × AH) (G : Option γ) : Prop :=
  match κ with
  | ((p, l, e, R, s, m, args, below, meth, c), (D, tys, base, nL, _)) =>
    ∀ x, G = some x → ∀ (H : Heap) (locs : List Loc) (ls : Array Slot), HP D tys base h H → va_S (fun q => base ≤ q) s.heap H locs → lv_has ls nL L →
      va_Run p l e R s m args below meth c H locs k n mc ms (F0 m pc ls st0) rest (Post D tys base (ψ x).1 (ψ x).2 #[]) (fun q => base ≤ q)
section CALL
variable {β γ : Type} {κ : Kx} {φ : β → Option Value × AH} {own : String} {cc : ByteArray} {k n pc : Nat} {L : List (Nat × Value)} {st0 rest : List Value} {h : AH} {mc ms : Nat} {ψ : γ → Option Value × AH} {G : Option γ}
theorem v_call (hc : CX κ own cc) (hcr : CR κ k n pc L st0 rest mc ms h ψ G) (K : γ → Option β) (kk : ∀ x, V κ φ (k + mc) (n + ms) (pc + 3) L ((ψ x).1.toList ++ rest) (ψ x).2 (K x)) : V κ φ k n pc L st0 h (G.bind K) := by
  obtain ⟨⟨p, l, e, R, s, m, args, below, meth, c⟩, D, tys, base, nL, Q⟩ := κ
  obtain ⟨hx, hb, hml, hfc, hts, hK, hty, hbs, hlk, hNW, hSC⟩ := hc
  intro x hv H locs ls hP hS hl T hT X
  obtain ⟨y, hy, hv⟩ := bd hv
  obtain ⟨v, st₀, t, T', L', h0, X', hL, e1, e2, ⟨⟨ho, hP'⟩, hz, hk⟩, stp⟩ := hcr y hy H locs ls hP hS hl T hT X
  cases ho
  rw [h0] at hz hk
  have hsz : s.heap.size ≤ T'.heap.size := Nat.le_trans hS.1 (by rw [e1]; exact hz)
  obtain ⟨t2, a1, b1⟩ := kk y x hv T'.heap (locs ++ L') ls (by rw [e1]; exact hP') ⟨hsz, fun q h1 h2 => by rw [e1, hk q (Nat.lt_of_lt_of_le h1 hS.1) h2]; exact hS.2.1 q h1 h2, fun q hq => by
      rcases List.mem_append.mp hq with hq | hq
      · exact hS.2.2 q hq
      · exact hL q hq⟩ hl T' rfl X'
  exact ⟨t2, stp t2 a1, b1⟩
variable {rm : Room} {y : MethodName} {C : String} {bytes : ByteArray} {maxL : Nat} {ret : Option FieldType} {fr lo : Nat} {As : List Value} {b : Nat}
theorem blind {D : va_G} {tys : Tys} {base : Nat} {As : List Value} {h : AH} : FrameBlind (va_Pc As (fun U => HP D tys base h U.heap ∧ va_K D vwCl tys U ∧ NW U ∧ SC base U)) := fun a U g mk q => ⟨q.1, q.2.1, va_K.moved (u := U) (U := U.calling g mk a) (Vm.Alike.refl U.vm) q.2.2.1, NW.same (s := U) rfl q.2.2.2.1, SC.same (s := U) q.2.2.2.2 rfl rfl⟩
theorem m_V (na : Nat) (hc : CX κ own cc) (hr : RX κ rm) (hC : ∀ l D tys base, Ct l D tys base y bytes maxL ret fr lo mc ms (.ref b :: As) h ψ G) {ci : Nat} {T : u_T} {N : Nat} (hG : ∀ x, G = some x → ∃ fs, hObj ci h b = some fs) (hci : vwCl[ci]? = some (C, T, N))
    (hcode : Cond.code y bytes maxL ret ∈ WT) {idx : Nat} (hlk : Cond.methodLink own idx y ∈ WT) (hin : Cond.instanceMethod y ∈ WT) (hsel : Cond.selects C y y ∈ WT) (hini : Cond.initialized C ∈ WT) (hd : y.cls = C ∧ y.cls ≠ "java/lang/invoke/MethodHandle" ∧ y.cls ≠ "java/lang/invoke/VarHandle" ∧ (parseMethodDescriptor y.desc).map (fun d => d.parameters.length) = some na) (hlen : As.length = na)
    (hR : fr + 1 ≤ rm.frames ∧ 8 + (maxL + 11) + lo ≤ rm.locals) (hf : k + mc ≤ rm.cells ∧ n + ms ≤ rm.slots) (h8 : (rest.map fun v => v.category).sum ≤ 8) (hdg : decode cc pc = .ok (.invokevirtual idx, 3)) : CR κ k n pc L (As.reverse ++ .ref b :: rest) rest mc ms h ψ G := by
  obtain ⟨⟨p, l, e, R, s, m, args, below, meth, c⟩, D, tys, base, nL, Q⟩ := κ
  obtain ⟨hx, hb, hml, hfc, hts, hK, hty, hbs, hlkk, hNW, hSC⟩ := hc
  have hr : R = rm := hr
  subst hr
  intro x hx2 H locs ls hP hS hl
  obtain ⟨fs, hfs⟩ := hG x hx2
  have hGd := WT_good hcode
  have hcw : CallW R s args own C idx y bytes maxL ret (.code y bytes maxL ret :: WT) ({ frames := fr, cells := mc, slots := ms, locals := lo } : Room) mc ms na :=
    cwV (Ts := WT) na hts (fun w hw => by
      rcases List.mem_append.mp hw with h1 | h1
      · have hm : w ∈ WT := by
          simp only [List.mem_cons, List.not_mem_nil, or_false] at h1
          rcases h1 with rfl | rfl | rfl | rfl <;> assumption
        exact ⟨hm, good_of_word (List.mem_filter.mp hm).2⟩
      · exact hGd w h1) rfl rfl rfl hd hR
  exact va_runV (As := As) (rest := rest) ⟨hx, hb, hml, hfc, hts⟩ (hC l D tys base x hx2 hty) hcw ⟨blind, va_recv hK (hP.one (obj_of hfs)) (q0 := 0) hci rfl, fun U hU hW => ⟨rfl, by rw [hU]; exact hP, va_K.moved hW.alike hK, hNW.moved hW, hSC.moved hW (by rw [hU]; exact hS)⟩⟩ rfl hlen hl.1 rfl (lv_room h8) hdg hf
theorem m_VN (na : Nat) (hc : CX κ own cc) (hr : RX κ rm) (hC : ∀ l D tys base, Ct l D tys base y bytes maxL ret fr lo mc ms (.ref b :: As) h ψ G) {ci : Nat} {T : u_T} {N : Nat} (hG : ∀ x, G = some x → ∃ fs, hObj ci h b = some fs) (hci : vwCl[ci]? = some (C, T, N)) {host : String}
    (hcode : Cond.code y bytes maxL ret ∈ WT) {idx : Nat} (hlk : Cond.methodLinkNest own idx y host ∈ NT) (hin : Cond.instanceMethod y ∈ WT) (hsel : Cond.selects C y y ∈ WT) (hini : Cond.initialized C ∈ WT) (hd : y.cls = C ∧ y.cls ≠ "java/lang/invoke/MethodHandle" ∧ y.cls ≠ "java/lang/invoke/VarHandle" ∧ (parseMethodDescriptor y.desc).map (fun d => d.parameters.length) = some na) (hlen : As.length = na)
    (hR : fr + 1 ≤ rm.frames ∧ 8 + (maxL + 11) + lo ≤ rm.locals) (hf : k + mc ≤ rm.cells ∧ n + ms ≤ rm.slots) (h8 : (rest.map fun v => v.category).sum ≤ 8) (hdg : decode cc pc = .ok (.invokevirtual idx, 3)) : CR κ k n pc L (As.reverse ++ .ref b :: rest) rest mc ms h ψ G := by
  obtain ⟨⟨p, l, e, R, s, m, args, below, meth, c⟩, D, tys, base, nL, Q⟩ := κ
  obtain ⟨hx, hb, hml, hfc, hts, hK, hty, hbs, hlkk, hNW, hSC⟩ := hc
  have hr : R = rm := hr
  subst hr
  intro x hx2 H locs ls hP hS hl
  obtain ⟨fs, hfs⟩ := hG x hx2
  exact va_runVN (As := As) (rest := rest) ⟨hx, hb, hml, hfc, hts⟩ (hC l D tys base x hx2 hty) ⟨va_cnB (Ts := WT) na hts (WT_good hcode) rfl rfl rfl (hNW _ hlk) (by rw [hd.1]; exact hts _ hini) hd.2 hR, hts _ hin, hts _ hsel⟩ ⟨blind, va_recv hK (hP.one (obj_of hfs)) (q0 := 0) hci rfl, fun U hU hW => ⟨rfl, by rw [hU]; exact hP, va_K.moved hW.alike hK, hNW.moved hW, hSC.moved hW (by rw [hU]; exact hS)⟩⟩ rfl hlen hl.1 rfl (lv_room h8) hdg hf
theorem m_S (na : Nat) (hc : CX κ own cc) (hr : RX κ rm) (hC : ∀ l D tys base, Ct l D tys base y bytes maxL ret fr lo mc ms As h ψ G) 
    (hcode : Cond.code y bytes maxL ret ∈ WT) {idx : Nat} (hlk : Cond.methodLink own idx y ∈ WT) (hstt : Cond.static y ∈ WT) (hini : Cond.initialized y.cls ∈ WT) (hd : y.cls ≠ "java/lang/invoke/MethodHandle" ∧ y.cls ≠ "java/lang/invoke/VarHandle" ∧ (parseMethodDescriptor y.desc).map (fun d => d.parameters.length) = some na) (hlen : As.length = na)
    (hR : fr + 1 ≤ rm.frames ∧ 8 + (maxL + 11) + lo ≤ rm.locals) (hf : k + mc ≤ rm.cells ∧ n + ms ≤ rm.slots) (h8 : (rest.map fun v => v.category).sum ≤ 8) (hdg : decode cc pc = .ok (.invokestatic idx, 3)) : CR κ k n pc L (As.reverse ++ rest) rest mc ms h ψ G := by
  obtain ⟨⟨p, l, e, R, s, m, args, below, meth, c⟩, D, tys, base, nL, Q⟩ := κ
  obtain ⟨hx, hb, hml, hfc, hts, hK, hty, hbs, hlkk, hNW, hSC⟩ := hc
  have hr : R = rm := hr
  subst hr
  intro x hx2 H locs ls hP hS hl
  exact va_runS (As := As) (rest := rest) ⟨hx, hb, hml, hfc, hts⟩ (hC l D tys base x hx2 hty) ⟨callB_of (Ts := WT) na hts (WT_good hcode) rfl rfl rfl (hts _ hini) (hts _ hlk) hd hR, hts _ hstt⟩ ⟨blind, fun U hU hW => ⟨rfl, by rw [hU]; exact hP, va_K.moved hW.alike hK, hNW.moved hW, hSC.moved hW (by rw [hU]; exact hS)⟩⟩ rfl hlen hl.1 rfl (lv_room h8) hdg hf
theorem m_SN (na : Nat) (hc : CX κ own cc) (hr : RX κ rm) (hC : ∀ l D tys base, Ct l D tys base y bytes maxL ret fr lo mc ms As h ψ G) {host : String}
    (hcode : Cond.code y bytes maxL ret ∈ WT) {idx : Nat} (hlk : Cond.methodLinkNest own idx y host ∈ NT) (hstt : Cond.static y ∈ WT) (hini : Cond.initialized y.cls ∈ WT) (hd : y.cls ≠ "java/lang/invoke/MethodHandle" ∧ y.cls ≠ "java/lang/invoke/VarHandle" ∧ (parseMethodDescriptor y.desc).map (fun d => d.parameters.length) = some na) (hlen : As.length = na)
    (hR : fr + 1 ≤ rm.frames ∧ 8 + (maxL + 11) + lo ≤ rm.locals) (hf : k + mc ≤ rm.cells ∧ n + ms ≤ rm.slots) (h8 : (rest.map fun v => v.category).sum ≤ 8) (hdg : decode cc pc = .ok (.invokestatic idx, 3)) : CR κ k n pc L (As.reverse ++ rest) rest mc ms h ψ G := by
  obtain ⟨⟨p, l, e, R, s, m, args, below, meth, c⟩, D, tys, base, nL, Q⟩ := κ
  obtain ⟨hx, hb, hml, hfc, hts, hK, hty, hbs, hlkk, hNW, hSC⟩ := hc
  have hr : R = rm := hr
  subst hr
  intro x hx2 H locs ls hP hS hl
  exact va_runSN (As := As) (rest := rest) ⟨hx, hb, hml, hfc, hts⟩ (hC l D tys base x hx2 hty) ⟨va_cnB (Ts := WT) na hts (WT_good hcode) rfl rfl rfl (hNW _ hlk) (hts _ hini) hd hR, hts _ hstt, trivial⟩ ⟨blind, fun U hU hW => ⟨rfl, by rw [hU]; exact hP, va_K.moved hW.alike hK, hNW.moved hW, hSC.moved hW (by rw [hU]; exact hS)⟩⟩ rfl hlen hl.1 rfl (lv_room h8) hdg hf
theorem m_I (na : Nat) (hc : CX κ own cc) (hr : RX κ rm) (hC : ∀ l D tys base, Ct l D tys base y bytes maxL none fr lo mc ms (.ref b :: As) h ψ G)
    (hcode : Cond.code y bytes maxL none ∈ WT) {idx : Nat} (hlk : Cond.methodLink own idx y ∈ WT) (hin : Cond.instanceMethod y ∈ WT) (hini : Cond.initialized y.cls ∈ WT) (hn1 : y.name = "<init>") (hd : y.cls ≠ "java/lang/invoke/MethodHandle" ∧ y.cls ≠ "java/lang/invoke/VarHandle" ∧ (parseMethodDescriptor y.desc).map (fun d => d.parameters.length) = some na) (hlen : As.length = na)
    (hR : fr + 1 ≤ rm.frames ∧ 8 + (maxL + 11) + lo ≤ rm.locals) (hf : k + mc ≤ rm.cells ∧ n + ms ≤ rm.slots) (h8 : (rest.map fun v => v.category).sum ≤ 8) (hdg : decode cc pc = .ok (.invokespecial idx, 3)) : CR κ k n pc L (As.reverse ++ .ref b :: rest) rest mc ms h ψ G := by
  obtain ⟨⟨p, l, e, R, s, m, args, below, meth, c⟩, D, tys, base, nL, Q⟩ := κ
  obtain ⟨hx, hb, hml, hfc, hts, hK, hty, hbs, hlkk, hNW, hSC⟩ := hc
  have hr : R = rm := hr
  subst hr
  intro x hx2 H locs ls hP hS hl
  exact va_runI (As := As) (rest := rest) ⟨hx, hb, hml, hfc, hts⟩ (hC l D tys base x hx2 hty) (cwI (Ts := WT) na hts (WT_good hcode) rfl rfl rfl (hts _ hini) (hts _ hlk) (hts _ hin) hn1 hd hR) ⟨blind, fun U hU hW => ⟨rfl, by rw [hU]; exact hP, va_K.moved hW.alike hK, hNW.moved hW, hSC.moved hW (by rw [hU]; exact hS)⟩⟩ rfl hlen hl.1 rfl (lv_room h8) hdg hf
theorem m_IN (na : Nat) (hc : CX κ own cc) (hr : RX κ rm) (hC : ∀ l D tys base, Ct l D tys base y bytes maxL none fr lo mc ms (.ref b :: As) h ψ G) {host : String}
    (hcode : Cond.code y bytes maxL none ∈ WT) {idx : Nat} (hlk : Cond.methodLinkNest own idx y host ∈ NT) (hin : Cond.instanceMethod y ∈ WT) (hini : Cond.initialized y.cls ∈ WT) (hn1 : y.name = "<init>") (hd : y.cls ≠ "java/lang/invoke/MethodHandle" ∧ y.cls ≠ "java/lang/invoke/VarHandle" ∧ (parseMethodDescriptor y.desc).map (fun d => d.parameters.length) = some na) (hlen : As.length = na)
    (hR : fr + 1 ≤ rm.frames ∧ 8 + (maxL + 11) + lo ≤ rm.locals) (hf : k + mc ≤ rm.cells ∧ n + ms ≤ rm.slots) (h8 : (rest.map fun v => v.category).sum ≤ 8) (hdg : decode cc pc = .ok (.invokespecial idx, 3)) : CR κ k n pc L (As.reverse ++ .ref b :: rest) rest mc ms h ψ G := by
  obtain ⟨⟨p, l, e, R, s, m, args, below, meth, c⟩, D, tys, base, nL, Q⟩ := κ
  obtain ⟨hx, hb, hml, hfc, hts, hK, hty, hbs, hlkk, hNW, hSC⟩ := hc
  have hr : R = rm := hr
  subst hr
  intro x hx2 H locs ls hP hS hl
  exact va_runIN (As := As) (rest := rest) ⟨hx, hb, hml, hfc, hts⟩ (hC l D tys base x hx2 hty) ⟨va_cnB (Ts := WT) na hts (WT_good hcode) rfl rfl rfl (hNW _ hlk) (hts _ hini) hd hR, hn1, hts _ hin⟩ ⟨blind, fun U hU hW => ⟨rfl, by rw [hU]; exact hP, va_K.moved hW.alike hK, hNW.moved hW, hSC.moved hW (by rw [hU]; exact hS)⟩⟩ rfl hlen hl.1 rfl (lv_room h8) hdg hf
end CALL
section CALL2
variable {β : Type} {κ : Kx} {φ : β → Option Value × AH} {own : String} {cc : ByteArray} {k n pc : Nat} {L : List (Nat × Value)} {st0 rest : List Value} {h : AH} {mc ms : Nat}
theorem v_cI (hc : CX κ own cc) {G : Option Int32} {K : Int32 → Option β} (hcr : CR κ k n pc L st0 rest 0 0 h (rI h) G) (kk : ∀ x, V κ φ k n (pc + 3) L (.int x :: rest) h (K x)) : V κ φ k n pc L st0 h (G.bind K) := v_call hc hcr K kk
theorem v_cB (hc : CX κ own cc) {G : Option Bool} {K : Bool → Option β} (hcr : CR κ k n pc L st0 rest 0 0 h (rB h) G) (kk : ∀ x, V κ φ k n (pc + 3) L (.int (bI x) :: rest) h (K x)) : V κ φ k n pc L st0 h (G.bind K) := v_call hc hcr K kk
theorem v_cL (hc : CX κ own cc) {G : Option Int64} {K : Int64 → Option β} (hcr : CR κ k n pc L st0 rest 0 0 h (rL h) G) (kk : ∀ x, V κ φ k n (pc + 3) L (.long x :: rest) h (K x)) : V κ φ k n pc L st0 h (G.bind K) := v_call hc hcr K kk
theorem v_cQ (hc : CX κ own cc) {G : Option (Option Nat)} {K : Option Nat → Option β} (hcr : CR κ k n pc L st0 rest 0 0 h (rQ h) G) (kk : ∀ x, V κ φ k n (pc + 3) L (va_rf x :: rest) h (K x)) : V κ φ k n pc L st0 h (G.bind K) := v_call hc hcr K kk
theorem v_cV (hc : CX κ own cc) {G : Option AH} {K : AH → Option β} (hcr : CR κ k n pc L st0 rest mc ms h wV G) (kk : ∀ x, V κ φ (k + mc) (n + ms) (pc + 3) L rest x (K x)) : V κ φ k n pc L st0 h (G.bind K) := v_call hc hcr K kk
theorem v_cwI (hc : CX κ own cc) {G : Option (Int32 × AH)} {K : Int32 × AH → Option β} (hcr : CR κ k n pc L st0 rest mc ms h wI G) (kk : ∀ x, V κ φ (k + mc) (n + ms) (pc + 3) L (.int x.1 :: rest) x.2 (K x)) : V κ φ k n pc L st0 h (G.bind K) := v_call hc hcr K kk
theorem v_cwB (hc : CX κ own cc) {G : Option (Bool × AH)} {K : Bool × AH → Option β} (hcr : CR κ k n pc L st0 rest mc ms h wB G) (kk : ∀ x, V κ φ (k + mc) (n + ms) (pc + 3) L (.int (bI x.1) :: rest) x.2 (K x)) : V κ φ k n pc L st0 h (G.bind K) := v_call hc hcr K kk
theorem v_cwL (hc : CX κ own cc) {G : Option (Int64 × AH)} {K : Int64 × AH → Option β} (hcr : CR κ k n pc L st0 rest mc ms h wL G) (kk : ∀ x, V κ φ (k + mc) (n + ms) (pc + 3) L (.long x.1 :: rest) x.2 (K x)) : V κ φ k n pc L st0 h (G.bind K) := v_call hc hcr K kk
theorem v_objI (hc : CX κ own cc) {rm : Room} (hr : RX κ rm) (hfr : 1 ≤ rm.frames) (hlo : 12 ≤ rm.locals) (hkc : k ≤ rm.cells) (hkn : n ≤ rm.slots) {idx a : Nat} {F : Option β} (h1 : Cond.methodLink own idx objectInit ∈ WT) (h2 : Cond.instanceMethod objectInit ∈ WT) (h3 : Cond.code objectInit ⟨#[0xb1]⟩ 1 none ∈ WT) (hd : decode cc pc = .ok (.invokespecial idx, 3)) (kk : V κ φ k n (pc + 3) L [] h F) : V κ φ k n pc L [.ref a] h F := by
  obtain ⟨⟨p, l, e, R, s, m, args, below, meth, c⟩, D, tys, base, nL, Q⟩ := κ
  obtain ⟨hx, hb, hml, hfc, hts, hK, hty, hbs, hlk, hNW, hSC⟩ := hc
  have hr : R = rm := hr
  subst hr
  intro x hv H locs ls hP hS hl
  refine W.objInit hx hb hfc (hts _ h1) (hts _ h2) (hts _ h3) rfl (by rw [hml]; exact hl.1) rfl hd hfr hlo ?_
  exact W.eq (g2 := F0 m (pc + 3) ls []) rfl (kk x hv H locs ls hP hS hl)
/-! ends -/
theorem v_iret (hc : CX κ own cc) {rt : Option FieldType} {ty : FieldType} (hq : QX κ rt mc ms) (hrt : rt = some ty) {v : Int32} (hn : narrow ty (.int v) = .int v) (hk : k ≤ mc) (hm : n ≤ ms) {z : β} (hz : φ z = (some (.int v), h)) (hd : decode cc pc = .ok (.ireturn, 1)) : V κ φ k n pc L [.int v] h (some z) := by
  obtain ⟨⟨p, l, e, R, s, m, args, below, meth, c⟩, D, tys, base, nL, Q⟩ := κ
  obtain ⟨hx, hb, hml, hfc, hts, hK, hty, hbs, hlk, hNW, hSC⟩ := hc
  obtain ⟨hr, hQ⟩ := hq
  subst hQ
  intro x hv H locs ls hP hS hl
  cases hv
  rw [hz]
  refine W.widen hk hm ?_
  exact W.zret hx hb (hr.trans hrt) hn (fun t ht hW => ⟨⟨rfl, by rw [ht]; exact hP⟩, hS.F ht⟩) hS.2.2 hd hlk
theorem v_lret (hc : CX κ own cc) (hq : QX κ (some .long) mc ms) {v : Int64} (hk : k ≤ mc) (hm : n ≤ ms) {z : β} (hz : φ z = (some (.long v), h)) (hd : decode cc pc = .ok (.lreturn, 1)) : V κ φ k n pc L [.long v] h (some z) := by
  obtain ⟨⟨p, l, e, R, s, m, args, below, meth, c⟩, D, tys, base, nL, Q⟩ := κ
  obtain ⟨hx, hb, hml, hfc, hts, hK, hty, hbs, hlk, hNW, hSC⟩ := hc
  obtain ⟨hr, hQ⟩ := hq
  subst hQ
  intro x hv H locs ls hP hS hl
  cases hv
  rw [hz]
  refine W.widen hk hm ?_
  exact W.lret hx hb hr (fun t ht hW => ⟨⟨rfl, by rw [ht]; exact hP⟩, hS.F ht⟩) hS.2.2 hd hlk
theorem v_aret (hc : CX κ own cc) {C : String} (hq : QX κ (some (.object C)) mc ms) {v : Option Nat} (hk : k ≤ mc) (hm : n ≤ ms) {z : β} (hz : φ z = (some (va_rf v), h)) (hd : decode cc pc = .ok (.areturn, 1)) : V κ φ k n pc L [va_rf v] h (some z) := by
  obtain ⟨⟨p, l, e, R, s, m, args, below, meth, c⟩, D, tys, base, nL, Q⟩ := κ
  obtain ⟨hx, hb, hml, hfc, hts, hK, hty, hbs, hlk, hNW, hSC⟩ := hc
  obtain ⟨hr, hQ⟩ := hq
  subst hQ
  intro x hv H locs ls hP hS hl
  cases hv
  rw [hz]
  refine W.widen hk hm ?_
  exact W.aret hx hb hr (Or.inl ⟨_, rfl⟩) (va_rf_or v) (fun t ht hW => ⟨⟨rfl, by rw [ht]; exact hP⟩, hS.F ht⟩) hS.2.2 hd hlk
theorem v_vret (hc : CX κ own cc) (hq : QX κ none mc ms) (hk : k ≤ mc) (hm : n ≤ ms) {z : β} (hz : φ z = (none, h)) (hd : decode cc pc = .ok (.return_, 1)) : V κ φ k n pc L [] h (some z) := by
  obtain ⟨⟨p, l, e, R, s, m, args, below, meth, c⟩, D, tys, base, nL, Q⟩ := κ
  obtain ⟨hx, hb, hml, hfc, hts, hK, hty, hbs, hlk, hNW, hSC⟩ := hc
  obtain ⟨hr, hQ⟩ := hq
  subst hQ
  intro x hv H locs ls hP hS hl
  cases hv
  rw [hz]
  refine W.widen hk hm ?_
  exact W.vret hx hb hr (fun t ht hW => ⟨⟨rfl, by rw [ht]; exact hP⟩, hS.F ht⟩) hS.2.2 hd hlk
/-! names for what was computed; fewer locals; wider room -/
theorem v_nmI {x : Int32} {K : Int32 → Option β} {st : List Value} (kk : ∀ y, V κ φ k n pc L (.int y :: st) h (K y)) : V κ φ k n pc L (.int x :: st) h ((some x).bind K) := kk x
theorem v_nmL {x : Int64} {K : Int64 → Option β} {st : List Value} (kk : ∀ y, V κ φ k n pc L (.long y :: st) h (K y)) : V κ φ k n pc L (.long x :: st) h ((some x).bind K) := kk x
theorem v_sub {L' : List (Nat × Value)} {st : List Value} {F : Option β} (ks : List Nat) (hl : lv_pick L ks = L') (kk : V κ φ k n pc L' st h F) : V κ φ k n pc L st h F := by
  obtain ⟨⟨p, l, e, R, s, m, args, below, meth, c⟩, D, tys, base, nL, Q⟩ := κ
  intro x hv H locs ls hP hS hl2
  exact kk x hv H locs ls hP hS (lv_sub hl2 ks hl)
theorem v_wide {k' n' : Nat} {st : List Value} {F : Option β} (hk : k ≤ k') (hn : n ≤ n') (kk : V κ φ k' n' pc L st h F) : V κ φ k n pc L st h F := by
  obtain ⟨⟨p, l, e, R, s, m, args, below, meth, c⟩, D, tys, base, nL, Q⟩ := κ
  intro x hv H locs ls hP hS hl2
  exact W.widen hk hn (kk x hv H locs ls hP hS hl2)
theorem v_tIn (hc : CX κ own cc) {st : List Value} {x : Int32} {F : Option β} (j : Int32) (hj : x = j) (tgt : Nat) {dflt lo hi off : Int} {offs : Array Int} {len : Nat} (hd : decode cc pc = .ok (.tableswitch dflt lo hi offs, len)) (h1 : ¬ j.toInt < lo) (h2 : ¬ hi < j.toInt) (ho : offs[(j.toInt - lo).toNat]? = some off) (ht : (pc : Int) + off = (tgt : Int)) (kk : V κ φ k n tgt L st h F) : V κ φ k n pc L (.int x :: st) h F := by
  obtain ⟨⟨p, l, e, R, s, m, args, below, meth, c⟩, D, tys, base, nL, Q⟩ := κ
  obtain ⟨hx, hb, hml, hfc, hts, hK, hty, hbs, hlk, hNW, hSC⟩ := hc
  subst hj
  intro v hv H locs ls hP hS hl
  exact lv_tableIn hx hb hd h1 h2 ho ht (kk v hv H locs ls hP hS hl)
theorem v_tOut (hc : CX κ own cc) {st : List Value} {x : Int32} {F : Option β} (tgt : Nat) {dflt lo hi : Int} {offs : Array Int} {len : Nat} (hd : decode cc pc = .ok (.tableswitch dflt lo hi offs, len)) (h1 : x.toInt < lo ∨ hi < x.toInt) (ht : (pc : Int) + dflt = (tgt : Int)) (kk : V κ φ k n tgt L st h F) : V κ φ k n pc L (.int x :: st) h F := by
  obtain ⟨⟨p, l, e, R, s, m, args, below, meth, c⟩, D, tys, base, nL, Q⟩ := κ
  obtain ⟨hx, hb, hml, hfc, hts, hK, hty, hbs, hlk, hNW, hSC⟩ := hc
  intro v hv H locs ls hP hS hl
  exact lv_tableOut hx hb hd h1 ht (kk v hv H locs ls hP hS hl)
theorem v_lsw (hc : CX κ own cc) {st : List Value} {x : Int32} {F : Option β} (tgt : Nat) {dflt off : Int} {ps : Array (Int × Int)} {len : Nat} (hd : decode cc pc = .ok (.lookupswitch dflt ps, len)) (hp : (ps.toList.zip (ps.toList.drop 1)).all (fun (a, next) => a.1 < next.1) = true) (ho : Op.lookupswitch.offset ps.toList dflt x.toInt = off) (ht : (pc : Int) + off = (tgt : Int)) (kk : V κ φ k n tgt L st h F) : V κ φ k n pc L (.int x :: st) h F := by
  obtain ⟨⟨p, l, e, R, s, m, args, below, meth, c⟩, D, tys, base, nL, Q⟩ := κ
  obtain ⟨hx, hb, hml, hfc, hts, hK, hty, hbs, hlk, hNW, hSC⟩ := hc
  intro v hv H locs ls hP hS hl
  exact lv_lookup hx hb hd hp ho ht (kk v hv H locs ls hP hS hl)
theorem v_ite {st : List Value} {A B : Option β} {c : Prop} [Decidable c] (ka : c → V κ φ k n pc L st h A) (kb : ¬ c → V κ φ k n pc L st h B) : V κ φ k n pc L st h (if c then A else B) := by
  by_cases hq : c
  · rw [if_pos hq]; exact ka hq
  · rw [if_neg hq]; exact kb hq
end CALL2
section MORE
variable {β : Type} {κ : Kx} {φ : β → Option Value × AH} {own : String} {cc : ByteArray} {k n pc : Nat} {L : List (Nat × Value)} {st : List Value} {h : AH}
theorem v_iincN (hc : CX κ own cc) {i : Nat} {z : Int} {x y : Int32} {L' : Int32 → List (Nat × Value)} {K : Int32 → Option β} (j : Nat) (hk : L[j]? = some (i, .int x)) (hd : decode cc pc = .ok (.iinc i z, 3)) (hz : Int32.ofInt z = y) (hn : i < κ.2.2.2.2.1) (he : ∀ w : Int32, (i, Value.int w) :: L.filter (fun q => !(q.1 == i) && !(q.1 + 1 == i && q.2.category == 2)) = L' w) (kk : ∀ w, V κ φ k n (pc + 3) (L' w) st h (K w)) : V κ φ k n pc L st h ((some (x + y)).bind K) :=
  v_iinc hc j hk hd hz hn (he _) (kk (x + y))
theorem v_obj {ci a : Nat} {F : Option β} (kk : V κ φ k n pc L st h F) : V κ φ k n pc L st h ((hObj ci h a).bind fun _ => F) := by
  cases hq : hObj ci h a with
  | none => exact v_none
  | some fs => exact kk
theorem v_nn {x : Option Nat} {K : Nat → Option β} (kk : ∀ a, x = some a → V κ φ k n pc L st h (K a)) : V κ φ k n pc L st h (x.bind K) := by
  cases x with
  | none => exact v_none
  | some a => exact kk a rfl
theorem v_ifnullR (hc : CX κ own cc) {x : Nat} {off : Int} {F : Option β} (hd : decode cc pc = .ok (.ifnull off, 3)) (kk : V κ φ k n (pc + 3) L st h F) : V κ φ k n pc L (.ref x :: st) h F := by
  obtain ⟨⟨p, l, e, R, s, m, args, below, meth, c⟩, D, tys, base, nL, Q⟩ := κ
  obtain ⟨hx, hb, hml, hfc, hts, hK, hty, hbs, hlk, hNW, hSC⟩ := hc
  intro v hv H locs ls hP hS hl
  exact lv_ifnull hx hb hd (kk v hv H locs ls hP hS hl)
theorem v_ifnonnullR (hc : CX κ own cc) {x : Nat} {off : Int} {F : Option β} (tgt : Nat) (hd : decode cc pc = .ok (.ifnonnull off, 3)) (ht : (pc : Int) + off = (tgt : Int)) (kk : V κ φ k n tgt L st h F) : V κ φ k n pc L (.ref x :: st) h F := by
  obtain ⟨⟨p, l, e, R, s, m, args, below, meth, c⟩, D, tys, base, nL, Q⟩ := κ
  obtain ⟨hx, hb, hml, hfc, hts, hK, hty, hbs, hlk, hNW, hSC⟩ := hc
  intro v hv H locs ls hP hS hl
  exact lv_ifnonnull hx hb hd ht (kk v hv H locs ls hP hS hl)
theorem v_idivN (hc : CX κ own cc) {x y : Int32} {K : Int32 → Option β} (hd : decode cc pc = .ok (.idiv, 1)) (kk : ∀ z, V κ φ k n (pc + 1) L (.int z :: st) h (K z)) : V κ φ k n pc L (.int y :: .int x :: st) h (if y = 0 then none else (some (x / y)).bind K) := v_idiv (K := K) hc hd (kk _)
theorem v_iremN (hc : CX κ own cc) {x y : Int32} {K : Int32 → Option β} (hd : decode cc pc = .ok (.irem, 1)) (kk : ∀ z, V κ φ k n (pc + 1) L (.int z :: st) h (K z)) : V κ φ k n pc L (.int y :: .int x :: st) h (if y = 0 then none else (some (x - x / y * y)).bind K) := v_irem (K := K) hc hd (kk _)
theorem v_ldivN (hc : CX κ own cc) {x y : Int64} {K : Int64 → Option β} (hd : decode cc pc = .ok (.ldiv, 1)) (kk : ∀ z, V κ φ k n (pc + 1) L (.long z :: st) h (K z)) : V κ φ k n pc L (.long y :: .long x :: st) h (if y = 0 then none else (some (x / y)).bind K) := v_ldiv (K := K) hc hd (kk _)
theorem v_lremN (hc : CX κ own cc) {x y : Int64} {K : Int64 → Option β} (hd : decode cc pc = .ok (.lrem, 1)) (kk : ∀ z, V κ φ k n (pc + 1) L (.long z :: st) h (K z)) : V κ φ k n pc L (.long y :: .long x :: st) h (if y = 0 then none else (some (x - x / y * y)).bind K) := v_lrem (K := K) hc hd (kk _)
theorem nar_b (b : Bool) : narrow .boolean (.int (bI b)) = .int (bI b) := by cases b <;> rfl
theorem vfit_q {C : String} (x : Option Nat) : narrow (.object C) (va_rf x) = va_rf x ∧ fits (.object C) (va_rf x) = true := by cases x <;> exact ⟨rfl, rfl⟩
/-! Math -/
variable {rm : Room} {idx : Nat}
theorem v_mmax (hc : CX κ own cc) (hr : RX κ rm) (hlink : Cond.methodLink own idx Lib.Math.max.name ∈ WT) (hstat : Cond.static Lib.Math.max.name ∈ WT) (hini : Cond.initialized "java/lang/Math" ∈ WT) (hcode : Cond.code Lib.Math.max.name Lib.Math.max.code 2 (some .int) ∈ WT) (hfr : 1 ≤ rm.frames) (hlo : (st.map fun v => v.category).sum + 13 ≤ rm.locals) (h1 : k ≤ rm.cells) (h2 : n ≤ rm.slots) {x y : Int32} (hd : decode cc pc = .ok (.invokestatic idx, 3)) {F : Option β} (kk : V κ φ k n (pc + 3) L (.int (if x < y then y else x) :: st) h F) : V κ φ k n pc L (.int y :: .int x :: st) h F := by
  obtain ⟨⟨p, l, e, R, s, m, args, below, meth, c⟩, D, tys, base, nL, Q⟩ := κ
  obtain ⟨hx, hb, hml, hfc, hts, hK, hty, hbs, hlk, hNW, hSC⟩ := hc
  have hr : R = rm := hr
  subst hr
  intro v hv H locs ls hP hS hl
  exact va_mmax hx hb (hml.trans hl.1.symm) hfc (hts _ hlink) (hts _ hstat) (hts _ hini) (hts _ hcode) hfr hlo h1 h2 hd (kk v hv H locs ls hP hS hl)
theorem v_mmin (hc : CX κ own cc) (hr : RX κ rm) (hlink : Cond.methodLink own idx Lib.Math.min.name ∈ WT) (hstat : Cond.static Lib.Math.min.name ∈ WT) (hini : Cond.initialized "java/lang/Math" ∈ WT) (hcode : Cond.code Lib.Math.min.name Lib.Math.min.code 2 (some .int) ∈ WT) (hfr : 1 ≤ rm.frames) (hlo : (st.map fun v => v.category).sum + 13 ≤ rm.locals) (h1 : k ≤ rm.cells) (h2 : n ≤ rm.slots) {x y : Int32} (hd : decode cc pc = .ok (.invokestatic idx, 3)) {F : Option β} (kk : V κ φ k n (pc + 3) L (.int (if y < x then y else x) :: st) h F) : V κ φ k n pc L (.int y :: .int x :: st) h F := by
  obtain ⟨⟨p, l, e, R, s, m, args, below, meth, c⟩, D, tys, base, nL, Q⟩ := κ
  obtain ⟨hx, hb, hml, hfc, hts, hK, hty, hbs, hlk, hNW, hSC⟩ := hc
  have hr : R = rm := hr
  subst hr
  intro v hv H locs ls hP hS hl
  exact va_mmin hx hb (hml.trans hl.1.symm) hfc (hts _ hlink) (hts _ hstat) (hts _ hini) (hts _ hcode) hfr hlo h1 h2 hd (kk v hv H locs ls hP hS hl)
theorem v_mabs (hc : CX κ own cc) (hr : RX κ rm) (hlink : Cond.methodLink own idx Lib.Math.abs.name ∈ WT) (hstat : Cond.static Lib.Math.abs.name ∈ WT) (hini : Cond.initialized "java/lang/Math" ∈ WT) (hcode : Cond.code Lib.Math.abs.name Lib.Math.abs.code 1 (some .int) ∈ WT) (hfr : 1 ≤ rm.frames) (hlo : (st.map fun v => v.category).sum + 13 ≤ rm.locals) (h1 : k ≤ rm.cells) (h2 : n ≤ rm.slots) {x : Int32} (hd : decode cc pc = .ok (.invokestatic idx, 3)) {F : Option β} (kk : V κ φ k n (pc + 3) L (.int (if 0 ≤ x then x else 0 - x) :: st) h F) : V κ φ k n pc L (.int x :: st) h F := by
  obtain ⟨⟨p, l, e, R, s, m, args, below, meth, c⟩, D, tys, base, nL, Q⟩ := κ
  obtain ⟨hx, hb, hml, hfc, hts, hK, hty, hbs, hlk, hNW, hSC⟩ := hc
  have hr : R = rm := hr
  subst hr
  intro v hv H locs ls hP hS hl
  exact va_mabs hx hb (hml.trans hl.1.symm) hfc (hts _ hlink) (hts _ hstat) (hts _ hini) (hts _ hcode) hfr hlo h1 h2 hd (kk v hv H locs ls hP hS hl)
theorem v_mmax_long (hc : CX κ own cc) (hr : RX κ rm) (hlink : Cond.methodLink own idx Lib.MathLoose.max_long.x ∈ WT) (hstat : Cond.static Lib.MathLoose.max_long.x ∈ WT) (hini : Cond.initialized "java/lang/Math" ∈ WT) (hcode : Cond.code Lib.MathLoose.max_long.x Lib.MathLoose.max_long.code 4 (some .long) ∈ WT) (hfr : 1 ≤ rm.frames) (hlo : (st.map fun v => v.category).sum + 15 ≤ rm.locals) (h1 : k ≤ rm.cells) (h2 : n ≤ rm.slots) {x y : Int64} (hd : decode cc pc = .ok (.invokestatic idx, 3)) {F : Option β} (kk : V κ φ k n (pc + 3) L (.long (if y < x then x else y) :: st) h F) : V κ φ k n pc L (.long y :: .long x :: st) h F := by
  obtain ⟨⟨p, l, e, R, s, m, args, below, meth, c⟩, D, tys, base, nL, Q⟩ := κ
  obtain ⟨hx, hb, hml, hfc, hts, hK, hty, hbs, hlk, hNW, hSC⟩ := hc
  have hr : R = rm := hr
  subst hr
  intro v hv H locs ls hP hS hl
  exact va_mmax_long hx hb (hml.trans hl.1.symm) hfc (hts _ hlink) (hts _ hstat) (hts _ hini) (hts _ hcode) hfr hlo h1 h2 hd (kk v hv H locs ls hP hS hl)
theorem v_mmin_long (hc : CX κ own cc) (hr : RX κ rm) (hlink : Cond.methodLink own idx Lib.MathLoose.min_long.x ∈ WT) (hstat : Cond.static Lib.MathLoose.min_long.x ∈ WT) (hini : Cond.initialized "java/lang/Math" ∈ WT) (hcode : Cond.code Lib.MathLoose.min_long.x Lib.MathLoose.min_long.code 4 (some .long) ∈ WT) (hfr : 1 ≤ rm.frames) (hlo : (st.map fun v => v.category).sum + 15 ≤ rm.locals) (h1 : k ≤ rm.cells) (h2 : n ≤ rm.slots) {x y : Int64} (hd : decode cc pc = .ok (.invokestatic idx, 3)) {F : Option β} (kk : V κ φ k n (pc + 3) L (.long (if y < x then y else x) :: st) h F) : V κ φ k n pc L (.long y :: .long x :: st) h F := by
  obtain ⟨⟨p, l, e, R, s, m, args, below, meth, c⟩, D, tys, base, nL, Q⟩ := κ
  obtain ⟨hx, hb, hml, hfc, hts, hK, hty, hbs, hlk, hNW, hSC⟩ := hc
  have hr : R = rm := hr
  subst hr
  intro v hv H locs ls hP hS hl
  exact va_mmin_long hx hb (hml.trans hl.1.symm) hfc (hts _ hlink) (hts _ hstat) (hts _ hini) (hts _ hcode) hfr hlo h1 h2 hd (kk v hv H locs ls hP hS hl)
/-! arraycopy of ints -/
def cpI (h : AH) (a0 : Nat) (sp : Int32) (a1 : Nat) (dp nn : Int32) : Option AH := (xI 0 h a0).bind fun x => (xI 0 h a1).bind fun y => if sp < 0 ∨ dp < 0 ∨ nn < 0 ∨ x.1 < sp.toNatClampNeg + nn.toNatClampNeg ∨ y.1 < dp.toNatClampNeg + nn.toNatClampNeg then none else some (hU h a1 (.inl (0, y.1, .inl (va_cpy x.2 y.2 sp.toNatClampNeg dp.toNatClampNeg nn.toNatClampNeg))))
theorem v_copy (hc : CX κ own cc) (hr : RX κ rm) (hlink : Cond.methodLink own idx arraycopyName ∈ WT) (hnat : Cond.native arraycopyName ∈ WT) (hstat : Cond.static arraycopyName ∈ WT) (hini : Cond.initialized "java/lang/System" ∈ WT) (hfr : 1 ≤ rm.frames) (hlo : (st.map fun v => v.category).sum + (nativeFrameWords "java/lang/System" "arraycopy" 5 + 11) ≤ rm.locals) {a0 a1 : Nat} {sp dp nn : Int32} {K : AH → Option β} (hd : decode cc pc = .ok (.invokestatic idx, 3)) (kk : ∀ h1, V κ φ k n (pc + 3) L st h1 (K h1)) : V κ φ k n pc L (.int nn :: .int dp :: .ref a1 :: .int sp :: .ref a0 :: st) h ((cpI h a0 sp a1 dp nn).bind K) := by
  obtain ⟨⟨p, l, e, R, s, m, args, below, meth, c⟩, D, tys, base, nL, Q⟩ := κ
  obtain ⟨hx, hb, hml, hfc, hts, hK, hty, hbs, hlk, hNW, hSC⟩ := hc
  have hr : R = rm := hr
  subst hr
  intro x hv H locs ls hP hS hl
  obtain ⟨h1, hv1, hv2⟩ := bd hv
  obtain ⟨⟨n0, f⟩, hv3, hv4⟩ := bd hv1
  obtain ⟨⟨n1, g⟩, hv5, hv6⟩ := bd hv4
  split at hv6
  · cases hv6
  · rename_i hz
    cases hv6
    have ho0 := xI_of hv3
    have ho1 := xI_of hv5
    have g1 : ¬ sp < 0 := fun q => hz (Or.inl q)
    have g2 : ¬ dp < 0 := fun q => hz (Or.inr (Or.inl q))
    have g3 : ¬ nn < 0 := fun q => hz (Or.inr (Or.inr (Or.inl q)))
    have g4 : sp.toNatClampNeg + nn.toNatClampNeg ≤ n0 := Nat.not_lt.mp fun q => hz (Or.inr (Or.inr (Or.inr (Or.inl q))))
    have g5 : dp.toNatClampNeg + nn.toNatClampNeg ≤ n1 := Nat.not_lt.mp fun q => hz (Or.inr (Or.inr (Or.inr (Or.inr q))))
    have nw : ∀ z : Int32, ¬ z < 0 → z.toInt = (z.toNatClampNeg : Int) := by
      intro z hz
      have hz0 : (0 : Int) ≤ z.toInt := by
        have := Int32.not_lt.mp hz
        simpa using Int32.le_iff_toInt_le.mp this
      show z.toInt = ((z.toInt.toNat : Nat) : Int)
      omega
    have hcell0 : H[a0]? = some (vp_cell _ (n0, .inl f)) := hP.at ho0
    have hcell1 : H[a1]? = some (vp_cell _ (n1, .inl g)) := hP.at ho1
    generalize hcA : (tys.getD 0 (0, FieldType.int)).1 = cA at hcell0 hcell1
    have hKA := (hK.2 0 _ (tys_at hty 0 rfl)).1
    rw [hcA] at hKA
    obtain ⟨-, k0, hk0, cm0, hkk0⟩ := hKA n0 (fun j => .int (f j))
    obtain ⟨-, k1, hk1, cm1, hkk1⟩ := hKA n1 (fun j => .int (g j))
    intro T hT X
    obtain ⟨vm', X', step⟩ := X.arraycopy hx hfc (hts _ hlink) (hts _ hnat) (hts _ hstat) (hts _ hini) (src := a0) (dst := a1) (cs := vp_cell cA (n0, .inl f)) (cd := vp_cell cA (n1, .inl g)) (srcPos := sp) (destPos := dp) (n := nn) (by rw [hT]; exact hcell0) (by rw [hT]; exact hcell1)
      (fun _ h => by cases h) (fun _ h => by cases h) (fun h => by cases h) (fun h => by cases h) hk0 hk1 hkk0 hkk1 (by simp [refKind]) g1 g2 g3
      (by rw [nw sp g1, nw nn g3]; show ¬ _ > ((arrV cA n0 (fun j => .int (f j))).slots.size : Int); rw [arrV_size]; omega)
      (by rw [nw dp g2, nw nn g3]; show ¬ _ > ((arrV cA n1 (fun j => .int (g j))).slots.size : Int); rw [arrV_size]; omega)
      (fun vm₁ _ i hi => by
        have e : (vp_cell cA (n0, .inl f)).slots.getD (sp.toNatClampNeg + i) .null = .int (f (sp.toNatClampNeg + i)) := by
          show (arrV cA n0 (fun j => .int (f j))).slots.getD _ _ = _
          rw [Array.getD_eq_getD_getElem?, arrV_read _ _ (by omega)]
          rfl
        refine ⟨?_, ?_⟩
        · rw [e]; rfl
        · rw [e]
          exact trivial)
      (g := F0 m pc ls (.int nn :: .int dp :: .ref a1 :: .int sp :: .ref a0 :: st)) rfl (hl.1.trans hml.symm) (rest := st) rfl (by rw [hb]; exact hd) hfr (by show 2 * 0 + _ + _ ≤ _; omega)
    have e1 : copied (vp_cell cA (n0, .inl f)) (vp_cell cA (n1, .inl g)) sp dp nn = vp_cell cA (n1, .inl (va_cpy f g sp.toNatClampNeg dp.toNatClampNeg nn.toNatClampNeg)) := va_copied (fun z => .int z) cA cA f g g4
    rw [e1] at X' step
    have hlt : a1 < H.size := (Array.getElem?_eq_some_iff.mp hcell1).1
    have hheap : ((T.setVm vm').setCell a1 (vp_cell cA (n1, .inl (va_cpy f g sp.toNatClampNeg dp.toNatClampNeg nn.toNatClampNeg)))).heap = H.setIfInBounds a1 (vp_cell cA (n1, .inl (va_cpy f g sp.toNatClampNeg dp.toNatClampNeg nn.toNatClampNeg))) := by rw [← hT]; rfl
    have oq : ∀ q : Nat, q ≠ a1 → (H.setIfInBounds a1 (vp_cell cA (n1, .inl (va_cpy f g sp.toNatClampNeg dp.toNatClampNeg nn.toNatClampNeg))))[q]? = H[q]? := fun q hq => by simp [Array.getElem?_setIfInBounds, Ne.symm hq]
    have ha1 := (hP.2.2 a1 _ ho1).1
    obtain ⟨t, b1, b2⟩ := kk _ x hv2 _ _ ls (hP.set ho1 (show (H.setIfInBounds a1 _)[a1]? = some (vp_cell (tys.getD 0 (0, FieldType.int)).1 _) by rw [hcA]; simp [Array.getElem?_setIfInBounds, hlt]) (by simp) oq) ⟨by simp; exact hS.1, fun q q1 q2 => by
        rw [oq q (fun e => q2 (by rw [e]; exact ha1))]
        exact hS.2.1 q q1 q2, fun q hq => by
        rcases List.mem_append.mp hq with hq | hq
        · exact hS.2.2 q hq
        · obtain ⟨z, -, hz⟩ := List.mem_map.mp hq
          rw [← hz]
          exact ha1⟩ hl _ hheap X'
    exact ⟨t, step t b1, b2⟩
end MORE
/-! what a call of a method rests on, in one -/
def YV (y : MethodName) (C : String) (bytes : ByteArray) (maxL : Nat) (ret : Option FieldType) (na : Nat) : Prop := Cond.code y bytes maxL ret ∈ WT ∧ Cond.instanceMethod y ∈ WT ∧ Cond.selects C y y ∈ WT ∧ Cond.initialized C ∈ WT ∧ y.cls = C ∧ y.cls ≠ "java/lang/invoke/MethodHandle" ∧ y.cls ≠ "java/lang/invoke/VarHandle" ∧ (parseMethodDescriptor y.desc).map (fun d => d.parameters.length) = some na
def YS (y : MethodName) (bytes : ByteArray) (maxL : Nat) (ret : Option FieldType) (na : Nat) : Prop := Cond.code y bytes maxL ret ∈ WT ∧ Cond.static y ∈ WT ∧ Cond.initialized y.cls ∈ WT ∧ y.cls ≠ "java/lang/invoke/MethodHandle" ∧ y.cls ≠ "java/lang/invoke/VarHandle" ∧ (parseMethodDescriptor y.desc).map (fun d => d.parameters.length) = some na
def YI (y : MethodName) (bytes : ByteArray) (maxL : Nat) (na : Nat) : Prop := Cond.code y bytes maxL none ∈ WT ∧ Cond.instanceMethod y ∈ WT ∧ Cond.initialized y.cls ∈ WT ∧ y.name = "<init>" ∧ y.cls ≠ "java/lang/invoke/MethodHandle" ∧ y.cls ≠ "java/lang/invoke/VarHandle" ∧ (parseMethodDescriptor y.desc).map (fun d => d.parameters.length) = some na
section CALLP
variable {γ : Type} {κ : Kx} {own : String} {cc : ByteArray} {k n pc : Nat} {L : List (Nat × Value)} {rest : List Value} {h : AH} {mc ms : Nat} {ψ : γ → Option Value × AH} {G : Option γ} {rm : Room} {y : MethodName} {C : String} {bytes : ByteArray} {maxL : Nat} {ret : Option FieldType} {fr lo : Nat} {As : List Value} {b : Nat} {idx : Nat}
theorem m_V' (na : Nat) (hc : CX κ own cc) (hr : RX κ rm) (hC : ∀ l D tys base, Ct l D tys base y bytes maxL ret fr lo mc ms (.ref b :: As) h ψ G) {ci : Nat} {T : u_T} {N : Nat} (hG : ∀ x, G = some x → ∃ fs, hObj ci h b = some fs) (hci : vwCl[ci]? = some (C, T, N)) (hy : YV y C bytes maxL ret na) (hlk : Cond.methodLink own idx y ∈ WT) (hlen : As.length = na)
    (hR : fr + 1 ≤ rm.frames ∧ 8 + (maxL + 11) + lo ≤ rm.locals) (hf : k + mc ≤ rm.cells ∧ n + ms ≤ rm.slots) (h8 : (rest.map fun v => v.category).sum ≤ 8) (hdg : decode cc pc = .ok (.invokevirtual idx, 3)) : CR κ k n pc L (As.reverse ++ .ref b :: rest) rest mc ms h ψ G :=
  m_V na hc hr hC hG hci hy.1 hlk hy.2.1 hy.2.2.1 hy.2.2.2.1 hy.2.2.2.2 hlen hR hf h8 hdg
theorem m_VN' {host : String} (na : Nat) (hc : CX κ own cc) (hr : RX κ rm) (hC : ∀ l D tys base, Ct l D tys base y bytes maxL ret fr lo mc ms (.ref b :: As) h ψ G) {ci : Nat} {T : u_T} {N : Nat} (hG : ∀ x, G = some x → ∃ fs, hObj ci h b = some fs) (hci : vwCl[ci]? = some (C, T, N)) (hy : YV y C bytes maxL ret na) (hlk : Cond.methodLinkNest own idx y host ∈ NT) (hlen : As.length = na)
    (hR : fr + 1 ≤ rm.frames ∧ 8 + (maxL + 11) + lo ≤ rm.locals) (hf : k + mc ≤ rm.cells ∧ n + ms ≤ rm.slots) (h8 : (rest.map fun v => v.category).sum ≤ 8) (hdg : decode cc pc = .ok (.invokevirtual idx, 3)) : CR κ k n pc L (As.reverse ++ .ref b :: rest) rest mc ms h ψ G :=
  m_VN na hc hr hC hG hci hy.1 hlk hy.2.1 hy.2.2.1 hy.2.2.2.1 hy.2.2.2.2 hlen hR hf h8 hdg
theorem m_S' (na : Nat) (hc : CX κ own cc) (hr : RX κ rm) (hC : ∀ l D tys base, Ct l D tys base y bytes maxL ret fr lo mc ms As h ψ G) (hy : YS y bytes maxL ret na) (hlk : Cond.methodLink own idx y ∈ WT) (hlen : As.length = na)
    (hR : fr + 1 ≤ rm.frames ∧ 8 + (maxL + 11) + lo ≤ rm.locals) (hf : k + mc ≤ rm.cells ∧ n + ms ≤ rm.slots) (h8 : (rest.map fun v => v.category).sum ≤ 8) (hdg : decode cc pc = .ok (.invokestatic idx, 3)) : CR κ k n pc L (As.reverse ++ rest) rest mc ms h ψ G :=
  m_S na hc hr hC hy.1 hlk hy.2.1 hy.2.2.1 hy.2.2.2 hlen hR hf h8 hdg
theorem m_SN' {host : String} (na : Nat) (hc : CX κ own cc) (hr : RX κ rm) (hC : ∀ l D tys base, Ct l D tys base y bytes maxL ret fr lo mc ms As h ψ G) (hy : YS y bytes maxL ret na) (hlk : Cond.methodLinkNest own idx y host ∈ NT) (hlen : As.length = na)
    (hR : fr + 1 ≤ rm.frames ∧ 8 + (maxL + 11) + lo ≤ rm.locals) (hf : k + mc ≤ rm.cells ∧ n + ms ≤ rm.slots) (h8 : (rest.map fun v => v.category).sum ≤ 8) (hdg : decode cc pc = .ok (.invokestatic idx, 3)) : CR κ k n pc L (As.reverse ++ rest) rest mc ms h ψ G :=
  m_SN na hc hr hC hy.1 hlk hy.2.1 hy.2.2.1 hy.2.2.2 hlen hR hf h8 hdg
theorem m_I' (na : Nat) (hc : CX κ own cc) (hr : RX κ rm) (hC : ∀ l D tys base, Ct l D tys base y bytes maxL none fr lo mc ms (.ref b :: As) h ψ G) (hy : YI y bytes maxL na) (hlk : Cond.methodLink own idx y ∈ WT) (hlen : As.length = na)
    (hR : fr + 1 ≤ rm.frames ∧ 8 + (maxL + 11) + lo ≤ rm.locals) (hf : k + mc ≤ rm.cells ∧ n + ms ≤ rm.slots) (h8 : (rest.map fun v => v.category).sum ≤ 8) (hdg : decode cc pc = .ok (.invokespecial idx, 3)) : CR κ k n pc L (As.reverse ++ .ref b :: rest) rest mc ms h ψ G :=
  m_I na hc hr hC hy.1 hlk hy.2.1 hy.2.2.1 hy.2.2.2.1 hy.2.2.2.2 hlen hR hf h8 hdg
theorem m_IN' {host : String} (na : Nat) (hc : CX κ own cc) (hr : RX κ rm) (hC : ∀ l D tys base, Ct l D tys base y bytes maxL none fr lo mc ms (.ref b :: As) h ψ G) (hy : YI y bytes maxL na) (hlk : Cond.methodLinkNest own idx y host ∈ NT) (hlen : As.length = na)
    (hR : fr + 1 ≤ rm.frames ∧ 8 + (maxL + 11) + lo ≤ rm.locals) (hf : k + mc ≤ rm.cells ∧ n + ms ≤ rm.slots) (h8 : (rest.map fun v => v.category).sum ≤ 8) (hdg : decode cc pc = .ok (.invokespecial idx, 3)) : CR κ k n pc L (As.reverse ++ .ref b :: rest) rest mc ms h ψ G :=
  m_IN na hc hr hC hy.1 hlk hy.2.1 hy.2.2.1 hy.2.2.2.1 hy.2.2.2.2 hlen hR hf h8 hdg
end CALLP
/-- more turns than any loop makes -/
def FU : Nat := 100000
