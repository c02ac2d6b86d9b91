theorem law_true (xs : Nat → Int32) (N base : Nat) (hN : N ≤ 4608) : ∃ h', fL_law xs N (base, fun _ => none) = some (true, h') := law_all xs N base hN
