/-! the class at the start; both at the start (gen89x.py) -/
theorem keeps {x : Nat} {h1 h2 h3 h4 h5 h6 h7 h8 h9 h10 h11 h12 h13 h14 : AH} (F2 : Fr x (x + 1) h1 h2) (c3 : ∀ q, q < x + 21 → q ≠ x → h3.2 q = h2.2 q) (b4 : FB (x + 22) h3 h4) (F5 : Fr x (x + 1) h4 h5) (b6 : FB (x + 24) h5 h6) (F7 : Fr x (x + 1) h6 h7) (c8 : ∀ q, q < x + 26 → q ≠ x → h8.2 q = h7.2 q) (F9 : Fr x (x + 1) h8 h9) (c10 : ∀ q, q < x + 27 → q ≠ x → h10.2 q = h9.2 q) (F11 : Fr x (x + 1) h10 h11) (c12 : ∀ q, q < x + 28 → q ≠ x → h12.2 q = h11.2 q) (b13 : FB (x + 29) h12 h13) (F14 : Fr x (x + 1) h13 h14) : (∀ q, q ≠ x → q < x + 35 → h14.2 q = h13.2 q) ∧ (∀ q, q ≠ x → q < x + 29 → h14.2 q = h12.2 q) ∧ (∀ q, q ≠ x → q < x + 28 → h14.2 q = h10.2 q) ∧ (∀ q, q ≠ x → q < x + 27 → h14.2 q = h8.2 q) ∧ (∀ q, q ≠ x → q < x + 26 → h14.2 q = h6.2 q) ∧ (∀ q, q ≠ x → q < x + 24 → h14.2 q = h4.2 q) ∧ (∀ q, q ≠ x → q < x + 22 → h14.2 q = h3.2 q) ∧ (∀ q, q ≠ x → q < x + 21 → h14.2 q = h1.2 q) := by
  have K13 : ∀ q, q ≠ x → q < x + 35 → h14.2 q = h13.2 q := fun q a b => F14.2 q (by omega)
  have K12 : ∀ q, q ≠ x → q < x + 29 → h14.2 q = h12.2 q := fun q a b => (K13 q a (by omega)).trans (b13 q b)
  have K11 : ∀ q, q ≠ x → q < x + 28 → h14.2 q = h11.2 q := fun q a b => (K12 q a (by omega)).trans (c12 q b a)
  have K10 : ∀ q, q ≠ x → q < x + 28 → h14.2 q = h10.2 q := fun q a b => (K11 q a (by omega)).trans (F11.2 q (by omega))
  have K9 : ∀ q, q ≠ x → q < x + 27 → h14.2 q = h9.2 q := fun q a b => (K10 q a (by omega)).trans (c10 q b a)
  have K8 : ∀ q, q ≠ x → q < x + 27 → h14.2 q = h8.2 q := fun q a b => (K9 q a (by omega)).trans (F9.2 q (by omega))
  have K7 : ∀ q, q ≠ x → q < x + 26 → h14.2 q = h7.2 q := fun q a b => (K8 q a (by omega)).trans (c8 q b a)
  have K6 : ∀ q, q ≠ x → q < x + 26 → h14.2 q = h6.2 q := fun q a b => (K7 q a (by omega)).trans (F7.2 q (by omega))
  have K5 : ∀ q, q ≠ x → q < x + 24 → h14.2 q = h5.2 q := fun q a b => (K6 q a (by omega)).trans (b6 q b)
  have K4 : ∀ q, q ≠ x → q < x + 24 → h14.2 q = h4.2 q := fun q a b => (K5 q a (by omega)).trans (F5.2 q (by omega))
  have K3 : ∀ q, q ≠ x → q < x + 22 → h14.2 q = h3.2 q := fun q a b => (K4 q a (by omega)).trans (b4 q b)
  have K2 : ∀ q, q ≠ x → q < x + 21 → h14.2 q = h2.2 q := fun q a b => (K3 q a (by omega)).trans (c3 q b a)
  have K1 : ∀ q, q ≠ x → q < x + 21 → h14.2 q = h1.2 q := fun q a b => (K2 q a (by omega)).trans (F2.2 q (by omega))
  exact ⟨K13, K12, K10, K8, K6, K4, K3, K1⟩
