/-! SOONEST: how the reference goes from one order to the next -/
def pv (od : Int → Int) : Nat → Int
  | 0 => -1
  | k + 1 => if od ((k : Int) + 1) < od k then pv od k else k
def swj (od : Int → Int) (p : Int) : Nat → Int
  | 0 => 0
  | k + 1 => if od k < p then swj od p k else k
def swap2 (od : Int → Int) (i j : Int) : Int → Int := up (up od i (od j)) j (od i)
def rvf : (Int → Int) → Nat → Int → Int → Int → Int
  | od, 0, _, _ => od
  | od, f + 1, a, b => if b ≤ a then od else rvf (swap2 od a b) f (a + 1) (b - 1)
def tnf (n : Nat) (od : Int → Int) : Bool × (Int → Int) := if pv od (n - 1) < 0 then (false, od) else (true, rvf (swap2 od (pv od (n - 1)) (swj od (od (pv od (n - 1))) n)) n (pv od (n - 1) + 1) (n - 1))
def fromL (P : List Int) : Int → Int := fun i => P.getD i.toNat 0
def toL (n : Nat) (od : Int → Int) : List Int := (List.range n).map fun i : Nat => od (i : Int)
def chc (n : Nat) : Nat → List Int → Bool
  | 0, P => !(tnf n (fromL P)).1
  | k + 1, P => if (tnf n (fromL P)).1 = true then chc n k (toL n (tnf n (fromL P)).2) else true
def chn (n : Nat) : Nat → List Int → List (List Int)
  | 0, P => [P]
  | k + 1, P => P :: (if (tnf n (fromL P)).1 = true then chn n k (toL n (tnf n (fromL P)).2) else [])
theorem chain1 : chc 1 720 (toL 1 id) = true ∧ chn 1 720 (toL 1 id) = PLf 1 (toL 1 id) := by decide +kernel
theorem chain2 : chc 2 720 (toL 2 id) = true ∧ chn 2 720 (toL 2 id) = PLf 2 (toL 2 id) := by decide +kernel
theorem chain3 : chc 3 720 (toL 3 id) = true ∧ chn 3 720 (toL 3 id) = PLf 3 (toL 3 id) := by decide +kernel
theorem chain4 : chc 4 720 (toL 4 id) = true ∧ chn 4 720 (toL 4 id) = PLf 4 (toL 4 id) := by decide +kernel
theorem chain5 : chc 5 720 (toL 5 id) = true ∧ chn 5 720 (toL 5 id) = PLf 5 (toL 5 id) := by decide +kernel
theorem chain6 : chc 6 720 (toL 6 id) = true ∧ chn 6 720 (toL 6 id) = PLf 6 (toL 6 id) := by decide +kernel
theorem chains {n : Nat} (n0 : 1 ≤ n) (n1 : n ≤ 6) : chc n 720 (toL n id) = true ∧ chn n 720 (toL n id) = PLf n (toL n id) := by
  have : n = 1 ∨ n = 2 ∨ n = 3 ∨ n = 4 ∨ n = 5 ∨ n = 6 := by omega
  rcases this with e | e | e | e | e | e <;> subst e
  · exact chain1
  · exact chain2
  · exact chain3
  · exact chain4
  · exact chain5
  · exact chain6
