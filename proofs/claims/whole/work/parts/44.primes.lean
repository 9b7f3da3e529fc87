/-! how many primes there are below 100000; the class's table of primes -/
def bpL : List Nat := [3, 5, 7, 11, 13, 17, 19, 23, 29, 31, 37, 41, 43, 47, 53, 59, 61, 67, 71, 73, 79, 83, 89, 97, 101, 103, 107, 109, 113, 127, 131, 137, 139, 149, 151, 157, 163, 167, 173, 179, 181, 191, 193, 197, 199, 211, 223, 227, 229, 233, 239, 241, 251, 257, 263, 269, 271, 277, 281, 283, 293, 307, 311, 313]
def lprod : List Nat → Nat
  | [] => 1
  | a :: l => a * lprod l
def bpQ : Nat := 30538464732966598049639471694498927575178071944119185744332748287405382286840121733591399582403281813261090655566479874265615105
/-- a number below 100000 that may be a prime: odd, nothing of the list divides it, or of the list, or 2 -/
def bp (n : Nat) : Bool := if n < 317 then decide (n = 2) || decide (n ∈ bpL) else decide (n % 2 = 1) && (Nat.gcd n bpQ == 1)
theorem dvd_lprod {p : Nat} (hp : pr p) : ∀ l : List Nat, p ∣ lprod l → ∃ q ∈ l, p ∣ q
  | [], h => by
    have h1 := Nat.le_of_dvd (show 0 < 1 from Nat.one_pos) (show p ∣ 1 from h)
    have := hp.1
    omega
  | a :: l, h => by
    rcases pr_mul hp (show p ∣ a * lprod l from h) with h1 | h1
    · exact ⟨a, List.mem_cons_self, h1⟩
    · obtain ⟨q, h2, h3⟩ := dvd_lprod hp l h1
      exact ⟨q, List.mem_cons_of_mem _ h2, h3⟩
theorem bpQ_eq : lprod bpL = bpQ := by decide +kernel
theorem bpL_small : ∀ q ∈ bpL, 0 < q ∧ q < 317 := by decide +kernel
theorem bp_low0 : ∀ p, p < 317 → (p < 2 ∨ p = 2 ∨ p ∈ bpL ∨ (List.range 18).any (fun d => decide (2 ≤ d ∧ d < p ∧ p % d = 0)) = true) := by decide +kernel
theorem bp_low (p : Nat) (h : p < 317) (h2 : 2 ≤ p) (h3 : ¬ (p = 2)) (h4 : ¬ (p ∈ bpL)) : ∃ d, d < 18 ∧ 2 ≤ d ∧ d < p ∧ p % d = 0 := by
  rcases bp_low0 p h with q | q | q | q
  · omega
  · exact absurd q h3
  · exact absurd q h4
  · obtain ⟨d, h5, h6⟩ := List.any_eq_true.mp q
    have h7 := of_decide_eq_true h6
    exact ⟨d, List.mem_range.mp h5, h7⟩
theorem bp_of_pr {p : Nat} (hp : pr p) : bp p = true := by
  unfold bp
  by_cases h : p < 317
  · rw [if_pos h]
    by_cases h2 : p = 2
    · simp [h2]
    · by_cases h3 : p ∈ bpL
      · simp [h3]
      · obtain ⟨d, -, hd2, hd3, hd4⟩ := bp_low p h hp.1 h2 h3
        rcases hp.2 d (Nat.dvd_of_mod_eq_zero hd4) with e | e <;> omega
  · rw [if_neg h]
    have h1 : p % 2 = 1 := by
      rcases Nat.mod_two_eq_zero_or_one p with e | e
      · rcases hp.2 2 (Nat.dvd_of_mod_eq_zero e) with q | q <;> omega
      · exact e
    have h2 : ¬ p ∣ lprod bpL := fun hd => by
      obtain ⟨q, h3, h4⟩ := dvd_lprod hp bpL hd
      have := bpL_small q h3
      have := Nat.le_of_dvd this.1 h4
      omega
    have h3 : Nat.gcd p bpQ = 1 := by rw [← bpQ_eq]; exact pr_cop hp h2
    simp [h1, h3]
/-- counted by halves -/
def bc (f : Nat → Bool) : Nat → Nat → Nat
  | 0, lo => if f lo then 1 else 0
  | d + 1, lo => bc f d lo + bc f d (lo + 2 ^ d)
theorem bc_ct (f : Nat → Bool) : ∀ d lo, bc f d lo = fb_ct (fun k => f (lo + k)) (2 ^ d)
  | 0, lo => by simp [bc, fb_ct]
  | d + 1, lo => by
    rw [bc, bc_ct f d, bc_ct f d, Nat.pow_succ, Nat.mul_two, fb_ct_split]
    congr 1
    exact fb_ct_cong (fun k _ => by rw [Nat.add_assoc])
theorem bp_count : bc (fun n => decide (n < 100000) && bp n) 17 0 ≤ 9592 := by decide +kernel
theorem bp_ct : fb_ct bp 100000 ≤ 9592 := by
  have h : fb_ct (fun k => (fun n => decide (n < 100000) && bp n) (0 + k)) (2 ^ 17) ≤ 9592 := by rw [← bc_ct (fun n => decide (n < 100000) && bp n) 17 0]; exact bp_count
  have h1 : fb_ct (fun k => (fun n => decide (n < 100000) && bp n) (0 + k)) 100000 ≤ fb_ct (fun k => (fun n => decide (n < 100000) && bp n) (0 + k)) (2 ^ 17) := fb_ct_mono _ (by decide)
  have h2 : fb_ct (fun k => (fun n => decide (n < 100000) && bp n) (0 + k)) 100000 = fb_ct bp 100000 := fb_ct_cong (fun k hk => by simp [hk])
  omega
/-- a rising row of primes is no longer than the count -/
theorem rise_ct {PL : Nat → Nat} : ∀ c M, (∀ k, k < c → bp (PL k) = true ∧ PL k < M) → (∀ i j, i < j → j < c → PL i < PL j) → c ≤ fb_ct bp M
  | 0, _, _, _ => Nat.zero_le _
  | c + 1, M, h, hr => by
    have h1 := rise_ct c (PL c) (fun k hk => ⟨(h k (by omega)).1, hr k c hk (by omega)⟩) (fun i j a b => hr i j a (by omega))
    have h2 : fb_ct bp (PL c + 1) = fb_ct bp (PL c) + 1 := by rw [fb_ct_succ, if_pos (h c (by omega)).1]
    have h3 := fb_ct_mono bp (show PL c + 1 ≤ M from (h c (by omega)).2)
    omega
