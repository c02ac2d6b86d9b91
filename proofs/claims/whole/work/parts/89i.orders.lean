/-! SOONEST: orders of a list, the least WAIT, the first order that has it -/
def wai (tk ch : Int → Int) : List Int → Int
  | [] => 0
  | a :: L => tk a * 1000 ^ L.length + ch a * wai tk ch L
def ls (acc v : Int) : Int := if acc < 0 ∨ v < acc then v else acc
def mwf (tk ch : Int → Int) : Nat → List Int → Int
  | 0, _ => 0
  | k + 1, S => S.foldl (fun acc a => ls acc (tk a * 1000 ^ k + ch a * mwf tk ch k (S.erase a))) (-1)
def fa (p : Int → Bool) : List Int → Int
  | [] => -1
  | a :: L => if p a = true then a else fa p L
def vla (tk ch : Int → Int) (k : Nat) (S : List Int) (a : Int) : Int := tk a * 1000 ^ k + ch a * mwf tk ch k (S.erase a)
def bof (tk ch : Int → Int) : Nat → List Int → List Int
  | 0, _ => []
  | k + 1, S => fa (fun a => decide (vla tk ch k S a = mwf tk ch (k + 1) S)) S :: (if ch (fa (fun a => decide (vla tk ch k S a = mwf tk ch (k + 1) S)) S) = 0 then S.erase (fa (fun a => decide (vla tk ch k S a = mwf tk ch (k + 1) S)) S) else bof tk ch k (S.erase (fa (fun a => decide (vla tk ch k S a = mwf tk ch (k + 1) S)) S)))
def PLf : Nat → List Int → List (List Int)
  | 0, _ => [[]]
  | k + 1, S => S.flatMap fun a => (PLf k (S.erase a)).map fun q => a :: q
def stp (f : List Int → Int) (st : Int × List Int) (o : List Int) : Int × List Int := if st.1 < 0 ∨ f o < st.1 then (f o, o) else st
/-- the first least of a list -/
def FA (f : List Int → Int) (L : List (List Int)) (w : Int) (o : List Int) : Prop := f o = w ∧ ∃ L1 L2, L = L1 ++ o :: L2 ∧ (∀ q ∈ L1, w < f q) ∧ ∀ q ∈ L2, w ≤ f q
theorem stp_gt {f : List Int → Int} {w : Int} : ∀ (L : List (List Int)) (st : Int × List Int), (st.1 = -1 ∨ w < st.1) → (∀ q ∈ L, w < f q) → ((L.foldl (stp f) st).1 = -1 ∨ w < (L.foldl (stp f) st).1)
  | [], st, h, _ => h
  | q :: L, st, h, hL => by
    refine stp_gt L (stp f st q) ?_ (fun y hy => hL y (List.mem_cons_of_mem _ hy))
    unfold stp
    split
    · exact .inr (hL q (List.mem_cons_self))
    · exact h
theorem stp_ge {f : List Int → Int} {w : Int} {o : List Int} (w0 : 0 ≤ w) : ∀ (L : List (List Int)), (∀ q ∈ L, w ≤ f q) → L.foldl (stp f) (w, o) = (w, o)
  | [], _ => rfl
  | q :: L, hL => by
    have := hL q (List.mem_cons_self)
    have e : stp f (w, o) q = (w, o) := by
      unfold stp
      exact if_neg (by show ¬ (w < 0 ∨ f q < w); omega)
    rw [List.foldl_cons, e]
    exact stp_ge w0 L (fun y hy => hL y (List.mem_cons_of_mem _ hy))
theorem fold_FA {f : List Int → Int} {L : List (List Int)} {w : Int} {o : List Int} (w0 : 0 ≤ w) (F : FA f L w o) : L.foldl (stp f) (-1, []) = (w, o) := by
  obtain ⟨e, L1, L2, eL, h1, h2⟩ := F
  rw [eL, List.foldl_append, List.foldl_cons]
  have g := stp_gt (f := f) (w := w) L1 (-1, []) (.inl rfl) h1
  have e1 : stp f (L1.foldl (stp f) (-1, [])) o = (w, o) := (if_pos (by omega) : stp f (L1.foldl (stp f) (-1, [])) o = (f o, o)).trans (by rw [e])
  rw [e1]
  exact stp_ge w0 L2 h2
theorem fa_split {p : Int → Bool} : ∀ {L : List Int}, (∃ a ∈ L, p a = true) → p (fa p L) = true ∧ ∃ L1 L2, L = L1 ++ fa p L :: L2 ∧ ∀ b ∈ L1, p b = false
  | [], ⟨a, h, _⟩ => by cases h
  | a :: L, ⟨b, hb, pb⟩ => by
    unfold fa
    by_cases c : p a = true
    · rw [if_pos c]
      exact ⟨c, [], L, rfl, fun b h => by cases h⟩
    · rw [if_neg c]
      obtain ⟨x, L1, L2, e, y⟩ := fa_split (p := p) (L := L) (by
        rcases List.mem_cons.mp hb with q | q
        · subst q; exact absurd pb c
        · exact ⟨b, q, pb⟩)
      refine ⟨x, a :: L1, L2, by rw [List.cons_append, ← e], fun z hz => ?_⟩
      rcases List.mem_cons.mp hz with q | q
      · subst q; cases w : p z; rfl; exact absurd w c
      · exact y z q
theorem ls_fold {f : Int → Int} : ∀ (L : List Int) (acc : Int), (∀ a ∈ L, 0 ≤ f a) → (-1 ≤ acc) → (L.foldl (fun acc a => ls acc (f a)) acc = acc ∨ ∃ a ∈ L, f a = L.foldl (fun acc a => ls acc (f a)) acc) ∧ (0 ≤ acc → L.foldl (fun acc a => ls acc (f a)) acc ≤ acc) ∧ (∀ a ∈ L, L.foldl (fun acc a => ls acc (f a)) acc ≤ f a) ∧ ((L ≠ [] ∨ 0 ≤ acc) → 0 ≤ L.foldl (fun acc a => ls acc (f a)) acc)
  | [], acc, _, _ => ⟨.inl rfl, fun _ => Int.le_refl _, fun a h => (by cases h), fun h => h.elim (fun q => absurd rfl q) id⟩
  | a :: L, acc, h, h1 => by
    have fa0 := h a (List.mem_cons_self)
    have l0 : 0 ≤ ls acc (f a) ∧ ls acc (f a) ≤ f a ∧ (0 ≤ acc → ls acc (f a) ≤ acc) ∧ (ls acc (f a) = acc ∨ ls acc (f a) = f a) := by
      unfold ls; split <;> omega
    obtain ⟨x, y, z, w⟩ := ls_fold (f := f) L (ls acc (f a)) (fun b hb => h b (List.mem_cons_of_mem _ hb)) (by omega)
    rw [List.foldl_cons]
    have y' := y l0.1
    refine ⟨?_, fun q => by have := l0.2.2.1 q; omega, fun b hb => ?_, fun _ => w (.inr l0.1)⟩
    · rcases x with q | ⟨b, hb, q⟩
      · rcases l0.2.2.2 with p | p
        · exact .inl (by rw [q, p])
        · exact .inr ⟨a, List.mem_cons_self, by rw [q, p]⟩
      · exact .inr ⟨b, List.mem_cons_of_mem _ hb, q⟩
    · rcases List.mem_cons.mp hb with q | q
      · subst q; omega
      · exact z b q
section
variable {tk ch : Int → Int}
theorem mwf_nn (t0 : ∀ a, 0 ≤ tk a) (c0 : ∀ a, 0 ≤ ch a) : ∀ (k : Nat) (S : List Int), S.length = k → 0 ≤ mwf tk ch k S
  | 0, _, _ => Int.le_refl _
  | k + 1, S, h => by
    have nn : ∀ a ∈ S, 0 ≤ vla tk ch k S a := fun a ha => by
      have ih := mwf_nn t0 c0 k (S.erase a) (by rw [List.length_erase_of_mem ha]; omega)
      exact Int.add_nonneg (Int.mul_nonneg (t0 a) (Int.pow_nonneg (by omega))) (Int.mul_nonneg (c0 a) ih)
    exact (ls_fold S (-1) nn (by omega)).2.2.2 (.inl (by intro z; subst z; simp at h))
theorem mwf_min (t0 : ∀ a, 0 ≤ tk a) (c0 : ∀ a, 0 ≤ ch a) {k : Nat} {S : List Int} (h : S.length = k + 1) : (∃ a ∈ S, vla tk ch k S a = mwf tk ch (k + 1) S) ∧ (∀ a ∈ S, mwf tk ch (k + 1) S ≤ vla tk ch k S a) := by
  have nn : ∀ a ∈ S, 0 ≤ vla tk ch k S a := fun a ha => by
    have ih := mwf_nn t0 c0 k (S.erase a) (by rw [List.length_erase_of_mem ha]; omega)
    exact Int.add_nonneg (Int.mul_nonneg (t0 a) (Int.pow_nonneg (by omega))) (Int.mul_nonneg (c0 a) ih)
  have l := ls_fold S (-1) nn (by omega)
  have z : 0 ≤ mwf tk ch (k + 1) S := mwf_nn t0 c0 (k + 1) S h
  refine ⟨?_, l.2.2.1⟩
  rcases l.1 with q | q
  · exfalso
    have : mwf tk ch (k + 1) S = -1 := q
    omega
  · exact q
theorem PLf_len : ∀ (k : Nat) (S : List Int), S.length = k → ∀ q ∈ PLf k S, q.length = k
  | 0, _, _, q, h => by
    have : q ∈ [([] : List Int)] := h
    rw [List.mem_singleton] at this
    subst this; rfl
  | k + 1, S, e, q, h => by
    have h' : q ∈ S.flatMap fun a => (PLf k (S.erase a)).map fun q => a :: q := h
    obtain ⟨a, ha, h2⟩ := List.mem_flatMap.mp h'
    obtain ⟨p, hp, e2⟩ := List.mem_map.mp h2
    rw [← e2, List.length_cons, PLf_len k (S.erase a) (by rw [List.length_erase_of_mem ha]; omega) p hp]
theorem PLf_head : ∀ (k : Nat) (S : List Int), S.length = k → ∃ L, PLf k S = S :: L
  | 0, S, h => ⟨[], by rw [List.length_eq_zero_iff.mp h]; rfl⟩
  | k + 1, [], h => by simp at h
  | k + 1, a :: S, h => by
    obtain ⟨L, e⟩ := PLf_head k S (by simpa using h)
    refine ⟨L.map (fun q => a :: q) ++ S.flatMap (fun b => (PLf k ((a :: S).erase b)).map fun q => b :: q), ?_⟩
    show (a :: S).flatMap (fun b => (PLf k ((a :: S).erase b)).map fun q => b :: q) = _
    rw [List.flatMap_cons, List.erase_cons_head, e, List.map_cons, List.cons_append]
/-- the orders of a list: the first least is the one that the class goes along -/
theorem PLf_FA (t0 : ∀ a, 0 ≤ tk a) (c0 : ∀ a, 0 ≤ ch a) : ∀ (k : Nat) (S : List Int), S.length = k → FA (wai tk ch) (PLf k S) (mwf tk ch k S) (bof tk ch k S) ∧ ∀ q ∈ PLf k S, mwf tk ch k S ≤ wai tk ch q
  | 0, S, h => ⟨⟨rfl, [], [], rfl, fun q h => (by cases h), fun q h => (by cases h)⟩, fun q hq => by
    have : q ∈ [([] : List Int)] := hq
    rw [List.mem_singleton] at this
    subst this; exact Int.le_refl _⟩
  | k + 1, S, h => by
    obtain ⟨mn, ml⟩ := mwf_min t0 c0 h
    have le : ∀ a ∈ S, (S.erase a).length = k := fun a ha => by rw [List.length_erase_of_mem ha]; omega
    -- one block
    have blk : ∀ a ∈ S, ∀ q ∈ (PLf k (S.erase a)).map (fun q => a :: q), vla tk ch k S a ≤ wai tk ch q := fun a ha q hq => by
      obtain ⟨p, hp, e⟩ := List.mem_map.mp hq
      have ih := (PLf_FA t0 c0 k (S.erase a) (le a ha)).2 p hp
      rw [← e]
      show tk a * 1000 ^ k + ch a * mwf tk ch k (S.erase a) ≤ tk a * 1000 ^ p.length + ch a * wai tk ch p
      rw [PLf_len k _ (le a ha) p hp]
      have := Int.mul_le_mul_of_nonneg_left ih (c0 a)
      omega
    obtain ⟨pa, S1, S2, eS, nS⟩ := fa_split (p := fun a => decide (vla tk ch k S a = mwf tk ch (k + 1) S)) (L := S) (by
      obtain ⟨a, ha, e⟩ := mn
      exact ⟨a, ha, decide_eq_true e⟩)
    have bo : bof tk ch (k + 1) S = fa (fun a => decide (vla tk ch k S a = mwf tk ch (k + 1) S)) S :: (if ch (fa (fun a => decide (vla tk ch k S a = mwf tk ch (k + 1) S)) S) = 0 then S.erase (fa (fun a => decide (vla tk ch k S a = mwf tk ch (k + 1) S)) S) else bof tk ch k (S.erase (fa (fun a => decide (vla tk ch k S a = mwf tk ch (k + 1) S)) S))) := rfl
    generalize fa (fun a => decide (vla tk ch k S a = mwf tk ch (k + 1) S)) S = a at *
    have va : vla tk ch k S a = mwf tk ch (k + 1) S := of_decide_eq_true pa
    have ha : a ∈ S := by rw [eS]; exact List.mem_append_right _ (List.mem_cons_self)
    obtain ⟨⟨ew, L1, L2, eL, hL1, hL2⟩, hall⟩ := PLf_FA t0 c0 k (S.erase a) (le a ha)
    obtain ⟨L0, e0⟩ := PLf_head k (S.erase a) (le a ha)
    have wl : ∀ p ∈ PLf k (S.erase a), wai tk ch (a :: p) = tk a * 1000 ^ k + ch a * wai tk ch p := fun p hp => by
      show tk a * 1000 ^ p.length + ch a * wai tk ch p = _
      rw [PLf_len k _ (le a ha) p hp]
    have block : FA (wai tk ch) ((PLf k (S.erase a)).map fun q => a :: q) (mwf tk ch (k + 1) S) (bof tk ch (k + 1) S) := by
      rw [bo, ← va]
      by_cases c : ch a = 0
      · rw [if_pos c]
        refine ⟨?_, [], L0.map fun q => a :: q, by rw [e0, List.map_cons]; rfl, fun q h => (by cases h), fun q hq => blk a ha q (by rw [e0, List.map_cons]; exact List.mem_cons_of_mem _ hq)⟩
        rw [wl _ (by rw [e0]; exact List.mem_cons_self)]
        unfold vla
        rw [c, Int.zero_mul, Int.zero_mul]
      · rw [if_neg c]
        refine ⟨?_, L1.map fun q => a :: q, L2.map fun q => a :: q, by rw [eL, List.map_append, List.map_cons], fun q hq => ?_, fun q hq => blk a ha q (by rw [eL, List.map_append, List.map_cons]; exact List.mem_append_right _ (List.mem_cons_of_mem _ hq))⟩
        · rw [wl _ (by rw [eL]; exact List.mem_append_right _ (List.mem_cons_self)), ew]
          rfl
        · obtain ⟨p, hp, e⟩ := List.mem_map.mp hq
          rw [← e, wl p (by rw [eL]; exact List.mem_append_left _ hp)]
          have cp : 0 < ch a := by have := c0 a; omega
          have := Int.mul_lt_mul_of_pos_left (hL1 p hp) cp
          show tk a * 1000 ^ k + ch a * mwf tk ch k (S.erase a) < _
          omega
    obtain ⟨bw, B1, B2, eB, hB1, hB2⟩ := block
    have all : ∀ q ∈ PLf (k + 1) S, mwf tk ch (k + 1) S ≤ wai tk ch q := fun q hq => by
      have h' : q ∈ S.flatMap fun a => (PLf k (S.erase a)).map fun q => a :: q := hq
      obtain ⟨b, hb, h2⟩ := List.mem_flatMap.mp h'
      exact Int.le_trans (ml b hb) (blk b hb q h2)
    refine ⟨⟨bw, S1.flatMap (fun a => (PLf k (S.erase a)).map fun q => a :: q) ++ B1, B2 ++ S2.flatMap (fun a => (PLf k (S.erase a)).map fun q => a :: q), ?_, fun q hq => ?_, fun q hq => ?_⟩, all⟩
    · have e1 : PLf (k + 1) S = S.flatMap fun a => (PLf k (S.erase a)).map fun q => a :: q := rfl
      have e2 : ∀ f : Int → List (List Int), S.flatMap f = S1.flatMap f ++ (f a ++ S2.flatMap f) := fun f => by
        have : S.flatMap f = (S1 ++ a :: S2).flatMap f := by rw [← eS]
        rw [this, List.flatMap_append, List.flatMap_cons]
      rw [e1, e2, eB]
      simp [List.append_assoc]
    · rcases List.mem_append.mp hq with q1 | q1
      · obtain ⟨b, hb, h2⟩ := List.mem_flatMap.mp q1
        have bS : b ∈ S := by rw [eS]; exact List.mem_append_left _ hb
        have nb := of_decide_eq_false (nS b hb)
        have := ml b bS
        have := blk b bS q h2
        omega
      · exact hB1 q q1
    · rcases List.mem_append.mp hq with q1 | q1
      · exact hB2 q q1
      · obtain ⟨b, hb, h2⟩ := List.mem_flatMap.mp q1
        have bS : b ∈ S := by rw [eS]; exact List.mem_append_right _ (List.mem_cons_of_mem _ hb)
        exact Int.le_trans (ml b bS) (blk b bS q h2)
theorem wai_rng (t0 : ∀ a, 0 ≤ tk a ∧ tk a ≤ 99) (c0 : ∀ a, 0 ≤ ch a ∧ ch a ≤ 1000) : ∀ q : List Int, 0 ≤ wai tk ch q ∧ wai tk ch q * 1000 ≤ q.length * 99 * 1000 ^ q.length
  | [] => by simp [wai]
  | a :: q => by
    obtain ⟨i1, i2⟩ := wai_rng t0 c0 q
    have p : (0 : Int) ≤ 1000 ^ q.length := Int.pow_nonneg (by omega)
    have a1 := Int.mul_nonneg (t0 a).1 p
    have a2 := Int.mul_nonneg (c0 a).1 i1
    have a3 := Int.mul_le_mul_of_nonneg_right (t0 a).2 p
    have a4 := Int.mul_le_mul_of_nonneg_right (c0 a).2 i1
    refine ⟨by show 0 ≤ tk a * 1000 ^ q.length + ch a * wai tk ch q; omega, ?_⟩
    show (tk a * 1000 ^ q.length + ch a * wai tk ch q) * 1000 ≤ ((q.length + 1 : Nat) : Int) * 99 * 1000 ^ (q.length + 1)
    rw [Int.pow_succ]
    have e : (((q.length + 1 : Nat) : Int)) * 99 * (1000 ^ q.length * 1000) = (q.length * 99 * 1000 ^ q.length) * 1000 + 99 * 1000 ^ q.length * 1000 := by
      rw [show ((q.length + 1 : Nat) : Int) = (q.length : Int) + 1 by omega, Int.add_mul, Int.add_mul, Int.one_mul, ← Int.mul_assoc, ← Int.mul_assoc]
    rw [e]
    omega
end
theorem PLf_in : ∀ (k : Nat) (S : List Int), S.length = k → ∀ q ∈ PLf k S, ∀ i : Nat, i < k → q.getD i 0 ∈ S
  | 0, _, _, _, _, i, hi => by omega
  | k + 1, S, e, q, h, i, hi => by
    have h' : q ∈ S.flatMap fun a => (PLf k (S.erase a)).map fun q => a :: q := h
    obtain ⟨a, ha, h2⟩ := List.mem_flatMap.mp h'
    obtain ⟨p, hp, e2⟩ := List.mem_map.mp h2
    rw [← e2]
    cases i with
    | zero => exact ha
    | succ i =>
      rw [List.getD_cons_succ]
      exact List.mem_of_mem_erase (PLf_in k (S.erase a) (by rw [List.length_erase_of_mem ha]; omega) p hp i (by omega))
