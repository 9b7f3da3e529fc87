/-! numbers without a prime above 200: all sums up to a million, by residues mod 2053 -/
def lpE (M : Nat) (F : Nat → Nat) (Lf : Nat → Nat) (p t : Nat) : Nat → Nat → Nat
  | 0, _ => 0
  | f + 1, s => if M < t * s then 0 else Lf (t * s) + F (t * s) + lpE M F Lf p t f (p * s + 1)
def goA (M : Nat) (Lf : Nat → Nat) : List Nat → Nat → Nat
  | [], _ => 0
  | p :: ps, t => if M < t * (p + 1) then 0 else goA M Lf ps t + lpE M (goA M Lf ps) Lf p t 20 (p + 1)
def p46 : List Nat := [2, 3, 5, 7, 11, 13, 17, 19, 23, 29, 31, 37, 41, 43, 47, 53, 59, 61, 67, 71, 73, 79, 83, 89, 97, 101, 103, 107, 109, 113, 127, 131, 137, 139, 149, 151, 157, 163, 167, 173, 179, 181, 191, 193, 197, 199]
def alle (T : Nat) : Nat → Nat → Bool
  | 0, x => decide (x ≤ T)
  | d + 1, x => alle T d (x % 2 ^ (17 * 2 ^ d)) && alle T d (x / 2 ^ (17 * 2 ^ d))
theorem smooth_all : goA 1000000 (fun _ => 1) p46 1 < 131000 := by decide +kernel
theorem smooth_mod : alle 286 12 (2 ^ 17 + goA 1000000 (fun t => 2 ^ (17 * (t % 2053))) p46 1) = true := by decide +kernel
