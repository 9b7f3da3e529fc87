/-! ranges: both sides ask the same -/
theorem num_of {v : Int64} (h1 : ¬ v < (1 : Int64)) (h2 : ¬ (10000000000 : Int64) < v) : ∃ n, 0 < n ∧ n ≤ 10000000000 ∧ v = lN n := by
  have h0 : ¬ v < 0 := fun h => h1 (by
    rw [Int64.lt_iff_toInt_lt] at *
    have e0 : (0 : Int64).toInt = 0 := rfl
    have e1 : (1 : Int64).toInt = 1 := rfl
    omega)
  obtain ⟨k, hk, rfl⟩ := pk_lOf h0
  refine ⟨k, ?_, ?_, rfl⟩
  · rcases Nat.eq_zero_or_pos k with e | e
    · subst e; exact absurd (M_lt 0 1 (by decide) (by decide)) h1
    · exact e
  · rcases Nat.lt_or_ge 10000000000 k with e | e
    · exact absurd (M_lt 10000000000 k e hk) h2
    · exact e
theorem isNum_f (N : Nat) (v : Int64) : (∃ n, 0 < n ∧ n ≤ 10000000000 ∧ v = lN n ∧ f_X11_isNumber N v = some 1 ∧ f_X12_isNumber N v = some 1) ∨ (f_X11_isNumber N v = some 0 ∧ f_X12_isNumber N v = some 0) := by
  unfold f_X11_isNumber f_X12_isNumber f_X12_in
  by_cases h1 : v < (1 : Int64)
  · right
    simp only [if_pos h1, ob]
    exact ⟨trivial, by simp⟩
  · by_cases h2 : (10000000000 : Int64) < v
    · right
      simp only [if_neg h1, if_pos h2, ob]
      exact ⟨trivial, by simp⟩
    · left
      obtain ⟨n, a, b, c⟩ := num_of h1 h2
      refine ⟨n, a, b, c, ?_⟩
      simp only [if_neg h1, if_neg h2, ob]
      exact ⟨trivial, by simp⟩
theorem rng_of {v : Int32} (lo hi : Nat) (hlo : lo < 2 ^ 31) (hhi : hi < 2 ^ 31) (h1 : ¬ v < nI lo) (h2 : ¬ nI hi < v) : ∃ k, lo ≤ k ∧ k ≤ hi ∧ v = nI k := by
  have h0 : ¬ v < 0 := fun h => h1 (by
    rw [Int32.lt_iff_toInt_lt] at *
    rw [nI_toInt hlo]
    have e0 : (0 : Int32).toInt = 0 := rfl
    omega)
  obtain ⟨k, hk, rfl⟩ := nI_of h0
  refine ⟨k, ?_, ?_, rfl⟩
  · rcases Nat.lt_or_ge k lo with e | e
    · exact absurd (nI_lt e hlo) h1
    · exact e
  · rcases Nat.lt_or_ge hi k with e | e
    · exact absurd (nI_lt e hk) h2
    · exact e
theorem in_f (N : Nat) (v : Int32) (lo hi : Nat) (hlo : lo < 2 ^ 31) (hhi : hi < 2 ^ 31) : f_X12_in N v.toInt64 (lN lo) (lN hi) = f_X11_within N v (nI lo) (nI hi) := by
  unfold f_X12_in f_X11_within
  have e : v.toInt64.toInt = v.toInt := Int32.toInt_toInt64 v
  have a1 : (v.toInt64 < lN lo) ↔ (v < nI lo) := by
    rw [Int64.lt_iff_toInt_lt, Int32.lt_iff_toInt_lt, e, nI_toInt hlo, lN_toInt hlo]
  have a2 : (lN hi < v.toInt64) ↔ (nI hi < v) := by
    rw [Int64.lt_iff_toInt_lt, Int32.lt_iff_toInt_lt, e, nI_toInt hhi, lN_toInt hhi]
  by_cases h1 : v < nI lo
  · rw [if_pos h1, if_pos (a1.mpr h1)]
  · rw [if_neg h1, if_neg (fun h => h1 (a1.mp h))]
    by_cases h2 : nI hi < v
    · rw [if_pos h2, if_pos (a2.mpr h2)]
    · rw [if_neg h2, if_neg (fun h => h2 (a2.mp h))]
theorem with_f (N : Nat) (v : Int32) (lo hi : Nat) (hlo : lo < 2 ^ 31) (hhi : hi < 2 ^ 31) : (∃ k, lo ≤ k ∧ k ≤ hi ∧ v = nI k ∧ f_X11_within N v (nI lo) (nI hi) = some 1 ∧ f_X12_in N v.toInt64 (lN lo) (lN hi) = some 1) ∨ (f_X11_within N v (nI lo) (nI hi) = some 0 ∧ f_X12_in N v.toInt64 (lN lo) (lN hi) = some 0) := by
  rw [in_f N v lo hi hlo hhi]
  unfold f_X11_within
  by_cases h1 : v < nI lo
  · right; rw [if_pos h1]; exact ⟨rfl, rfl⟩
  · by_cases h2 : nI hi < v
    · right; rw [if_neg h1, if_pos h2]; exact ⟨rfl, rfl⟩
    · left
      obtain ⟨k, a, b, c⟩ := rng_of lo hi hlo hhi h1 h2
      refine ⟨k, a, b, c, ?_⟩
      rw [if_neg h1, if_neg h2]
      exact ⟨rfl, rfl⟩
/-! the table of primes, made when it is first needed -/
def LsOK (n_row n_list : Nat) (a_list : Nat → Int32) : Prop := (n_row = 0 ∨ n_row = 50001) ∧ (n_list = 0 ∨ (n_list = 9592 ∧ n_row = 50001 ∧ PT 9592 a_list))
def cC3 (n_row n_list : Nat) : Nat := if n_list = 0 then 1 + (if n_row = 0 then 1 else 0) else 0
def cS3 (n_row n_list : Nat) : Nat := if n_list = 0 then 9592 + (if n_row = 0 then 50001 else 0) else 0
theorem c3_eq {n_row n_list : Nat} {a_list : Nat → Int32} (h : LsOK n_row n_list a_list) : (if 0 < nI n_list then 0 else 1 + (if nI n_row = 0 then 1 else 0)) = cC3 n_row n_list ∧ (if 0 < nI n_list then 0 else 9592 + (if nI n_row = 0 then 50001 else 0)) = cS3 n_row n_list := by
  obtain ⟨hr, hl⟩ := h
  obtain ⟨e1, e2⟩ := rc_eq hr
  rw [e1, e2]
  unfold cC3 cS3
  rcases hl with rfl | ⟨rfl, -, -⟩
  · rw [if_neg (show ¬ (0 : Int32) < nI 0 by decide), if_neg (show ¬ (0 : Int32) < nI 0 by decide)]; exact ⟨rfl, rfl⟩
  · rw [if_pos (show (0 : Int32) < nI 9592 by decide), if_pos (show (0 : Int32) < nI 9592 by decide)]; exact ⟨rfl, rfl⟩
/-- the change of lengths is the cost -/
theorem c3_diff {n_row n_list : Nat} {a_list : Nat → Int32} (h : LsOK n_row n_list a_list) : (if 50001 = n_row then 0 else 1) + (if 9592 = n_list then 0 else 1) = cC3 n_row n_list ∧ (50001 - n_row) + (9592 - n_list) = cS3 n_row n_list := by
  obtain ⟨hr, hl⟩ := h
  rcases hl with rfl | ⟨rfl, rfl, -⟩
  · rcases hr with rfl | rfl <;> exact ⟨rfl, rfl⟩
  · exact ⟨rfl, rfl⟩
theorem prep3 (N : Nat) (hN : 2 ^ 20 ≤ N) {MC MS n_row n_list : Nat} {a_list : Nat → Int32} (h : LsOK n_row n_list a_list) (hC : cC3 n_row n_list ≤ MC) (hS : cS3 n_row n_list ≤ MS) (a_row : Nat → Int32) : ∃ a_row' a_list', f_X3_prepare N MC MS n_row a_row n_list a_list = some (50001, a_row', 9592, a_list') ∧ PT 9592 a_list' := by
  obtain ⟨hr, hl⟩ := h
  rcases hl with rfl | ⟨rfl, rfl, hT⟩
  · exact primes_f N hN hr rfl hC hS a_row a_list
  · refine ⟨a_row, a_list, ?_, hT⟩
    unfold f_X3_prepare
    rw [if_neg (show ¬ nI 9592 ≤ (0 : Int32) by decide), if_pos ⟨Nat.zero_le _, Nat.zero_le _⟩]
theorem cC3_le (n_row n_list : Nat) : cC3 n_row n_list ≤ 2 ∧ cS3 n_row n_list ≤ 59593 := by
  unfold cC3 cS3
  by_cases h : n_list = 0 <;> by_cases h2 : n_row = 0 <;> simp [h, h2]
theorem LsOK.le {n_row n_list : Nat} {a_list : Nat → Int32} (h : LsOK n_row n_list a_list) : n_row ≤ 50001 ∧ n_list ≤ 9592 := by
  obtain ⟨a, b⟩ := h
  constructor
  · rcases a with e | e <;> omega
  · rcases b with e | ⟨e, _⟩ <;> omega
theorem LsOK.done {n_row n_list : Nat} {a_list : Nat → Int32} (h : PT 9592 a_list) : LsOK 50001 9592 a_list := ⟨Or.inr rfl, Or.inr ⟨rfl, rfl, h⟩⟩
/-- sum: both sides give one answer -/
theorem sum_eq (N : Nat) (hN : 2 ^ 40 ≤ N) (v1 : Int32) (v2 : Int64) {u : Int32} {num : Int64} {P : Nat → Int64} {T : Nat → Int32} {n_row n_list : Nat} {a_row a_list : Nat → Int32} (hS : SpOK u num P T) (hL : LsOK n_row n_list a_list) : ∃ (ans : Int64) (dC dS : Nat), dC ≤ 8 ∧ dS ≤ 400000 ∧ (∀ MC MS, dC ≤ MC → dS ≤ MS → ∃ (u' : Int32) (num' : Int64) (n_row' : Nat) (a_row' : Nat → Int32) (n_list' : Nat) (a_list' : Nat → Int32) (P' : Nat → Int64) (T' : Nat → Int32), f_X11_sum N MC MS v1 v2 u num n_row a_row n_list a_list P T = some (ans, u', num', n_row', a_row', n_list', a_list', P', T') ∧ SpOK u' num' P' T' ∧ (LsOK n_row' n_list' a_list' ∧ n_row ≤ n_row' ∧ n_list ≤ n_list') ∧ (if n_row' = n_row then 0 else 1) + (if n_list' = n_list then 0 else 1) = dC ∧ (n_row' - n_row) + (n_list' - n_list) = dS) ∧ ∀ pm arr, ∃ pm' arr', f_X12_sum N v1 v2 pm arr = some (ans, pm', arr') := by
  have h40 : (2 : Nat) ^ 40 = 1099511627776 := by decide
  have bad : f_X11_within N v1 (nI 0) (nI 3) = some 0 ∨ f_X11_isNumber N v2 = some 0 → ∀ MC MS : Nat, f_X11_sum N MC MS v1 v2 u num n_row a_row n_list a_list P T = some ((-1 : Int64), u, num, n_row, a_row, n_list, a_list, P, T) := by
    intro h MC MS
    unfold f_X11_sum
    rw [show (0 : Int32) = nI 0 from rfl, show (3 : Int32) = nI 3 from rfl]
    rcases with_f N v1 0 3 (by decide) (by decide) with ⟨k, -, -, -, w1, -⟩ | ⟨w1, -⟩
    · rw [w1] at h
      rcases h with h | h
      · cases h
      · rw [w1, h, if_pos ⟨Nat.zero_le _, Nat.zero_le _⟩, ob, if_neg (show ¬ (1 : Int32) = nI 0 by decide), if_pos ⟨Nat.zero_le _, Nat.zero_le _⟩, ob, if_pos (show (0 : Int32) = nI 0 from rfl), if_pos ⟨Nat.zero_le _, Nat.zero_le _⟩]
    · rw [w1, if_pos ⟨Nat.zero_le _, Nat.zero_le _⟩, ob, if_pos (show (0 : Int32) = nI 0 from rfl), if_pos ⟨Nat.zero_le _, Nat.zero_le _⟩]
  have badR : f_X11_within N v1 (nI 0) (nI 3) = some 0 ∨ f_X11_isNumber N v2 = some 0 → (∀ pm arr, ∃ pm' arr', f_X12_sum N v1 v2 pm arr = some ((-1 : Int64), pm', arr')) → ∃ (ans : Int64) (dC dS : Nat), dC ≤ 8 ∧ dS ≤ 400000 ∧ (∀ MC MS, dC ≤ MC → dS ≤ MS → ∃ (u' : Int32) (num' : Int64) (n_row' : Nat) (a_row' : Nat → Int32) (n_list' : Nat) (a_list' : Nat → Int32) (P' : Nat → Int64) (T' : Nat → Int32), f_X11_sum N MC MS v1 v2 u num n_row a_row n_list a_list P T = some (ans, u', num', n_row', a_row', n_list', a_list', P', T') ∧ SpOK u' num' P' T' ∧ (LsOK n_row' n_list' a_list' ∧ n_row ≤ n_row' ∧ n_list ≤ n_list') ∧ (if n_row' = n_row then 0 else 1) + (if n_list' = n_list then 0 else 1) = dC ∧ (n_row' - n_row) + (n_list' - n_list) = dS) ∧ ∀ pm arr, ∃ pm' arr', f_X12_sum N v1 v2 pm arr = some (ans, pm', arr') := by
    intro h hm
    exact ⟨-1, 0, 0, by decide, by decide, fun MC MS _ _ => ⟨u, num, n_row, a_row, n_list, a_list, P, T, bad h MC MS, hS, ⟨hL, Nat.le_refl _, Nat.le_refl _⟩, by simp, by simp⟩, hm⟩
  rcases with_f N v1 0 3 (by decide) (by decide) with ⟨k, -, hk, rfl, w1, w2⟩ | ⟨w1, w2⟩
  · rcases isNum_f N v2 with ⟨n, n0, nb, rfl, i1, i2⟩ | ⟨i1, i2⟩
    · obtain ⟨eC, eS⟩ := c3_eq hL
      have hle := cC3_le n_row n_list
      obtain ⟨fC, fS⟩ := c3_diff hL
      refine ⟨smK k n, cC3 n_row n_list, cS3 n_row n_list, by omega, by omega, fun MC MS h1 h2 => ?_, fun pm arr => ?_⟩
      · obtain ⟨ar, al, p1, p2⟩ := prep3 N (by omega) hL (Nat.le_refl _) (Nat.le_refl _) a_row
        obtain ⟨u', num', P', T', s1, s2⟩ := summed_f N (by omega) p2 hS n0 nb hk
        refine ⟨u', num', 50001, ar, 9592, al, P', T', ?_, s2, ⟨LsOK.done (n_row := 0) (n_list := 0) p2, hL.le⟩, fC, fS⟩
        unfold f_X11_sum
        rw [eC, eS, show f_X11_within N (nI k) (0 : Int32) (3 : Int32) = some 1 from w1, i1, if_pos ⟨Nat.zero_le _, Nat.zero_le _⟩, ob, if_neg (show ¬ (1 : Int32) = 0 by decide), if_pos ⟨Nat.zero_le _, Nat.zero_le _⟩, ob, if_neg (show ¬ (1 : Int32) = 0 by decide), if_pos ⟨by omega, by omega⟩, p1, ob, if_pos ⟨by omega, by omega⟩, s1, ob, if_pos ⟨by omega, by omega⟩]
      · obtain ⟨pm', arr', e⟩ := sumOf_f N hN hk n0 nb pm arr
        refine ⟨pm', arr', ?_⟩
        unfold f_X12_sum
        rw [show f_X12_in N (nI k).toInt64 (0 : Int64) (3 : Int64) = some 1 from w2, ob, if_neg (show ¬ (1 : Int32) = 0 by decide), i2, ob, if_neg (show ¬ (1 : Int32) = 0 by decide), e, ob]
    · refine badR (Or.inr i1) (fun pm arr => ⟨pm, arr, ?_⟩)
      unfold f_X12_sum
      rw [show f_X12_in N (nI k).toInt64 (0 : Int64) (3 : Int64) = some 1 from w2, ob, if_neg (show ¬ (1 : Int32) = 0 by decide), i2, ob, if_pos rfl]
  · refine badR (Or.inl w1) (fun pm arr => ⟨pm, arr, ?_⟩)
    unfold f_X12_sum
    rw [show f_X12_in N v1.toInt64 (0 : Int64) (3 : Int64) = some 0 from w2, ob, if_pos rfl]
