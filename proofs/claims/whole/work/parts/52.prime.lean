/-! prime: the primes of a number, one after another -/
theorem idx_of {v : Int32} (h : (-1 : Int32) ≤ v) : v = -1 ∨ ∃ j, j < 2 ^ 31 ∧ v = nI j := by
  by_cases h0 : v < 0
  · left
    rw [Int32.le_iff_toInt_le] at h
    rw [Int32.lt_iff_toInt_lt] at h0
    have e1 : (-1 : Int32).toInt = -1 := rfl
    have e0 : (0 : Int32).toInt = 0 := rfl
    have : v.toInt = (-1 : Int32).toInt := by omega
    exact Int32.toInt_inj.mp this
  · exact Or.inr (nI_of h0)
theorem nI_ge0 {j : Nat} (h : j < 2 ^ 31) : (0 : Int32) ≤ nI j := nI_pos' h
theorem nI_gem {j : Nat} (h : j < 2 ^ 31) : (-1 : Int32) ≤ nI j := by
  rw [Int32.le_iff_toInt_le, nI_toInt h]
  have e1 : (-1 : Int32).toInt = -1 := rfl
  omega
theorem nI_nem {j : Nat} (h : j < 2 ^ 31) : ¬ nI j = (-1 : Int32) := by
  intro q
  have h2 := congrArg Int32.toInt q
  rw [nI_toInt h] at h2
  have e1 : (-1 : Int32).toInt = -1 := rfl
  omega
theorem dvd_prodf {f : Nat → Nat} {i : Nat} : ∀ u, i < u → f i ∣ prodf f u
  | 0, h => absurd h (Nat.not_lt_zero i)
  | u + 1, h => by
    rw [prodf]
    rcases Nat.eq_or_lt_of_le (Nat.le_of_lt_succ h) with r | r
    · subst r; exact Nat.dvd_mul_left _ _
    · exact Nat.dvd_trans (dvd_prodf u r) (Nat.dvd_mul_right _ _)
theorem pr_prodf {f : Nat → Nat} {q : Nat} (hq : pr q) : ∀ u, (∀ i, i < u → pr (f i)) → q ∣ prodf f u → ∃ i, i < u ∧ f i = q
  | 0, _, hd => by
    have h1 := Nat.le_of_dvd (show 0 < 1 from Nat.one_pos) (show q ∣ 1 from hd)
    have := hq.1
    omega
  | u + 1, h, hd => by
    rw [prodf] at hd
    rcases pr_mul hq hd with h1 | h1
    · obtain ⟨i, a, b⟩ := pr_prodf hq u (fun i hi => h i (by omega)) h1
      exact ⟨i, by omega, b⟩
    · exact ⟨u, by omega, (pr_eq hq (h u (by omega)) h1).symm⟩
theorem MF_one {c : Nat} {Q : Nat → Nat} (h : MF c Q 1) : c = 0 := by
  rcases Nat.eq_zero_or_pos c with r | r
  · exact r
  · exfalso
    have h1 := prodf_two (u := c) (fun i hi => (h.1 i hi).1)
    rw [h.2.2] at h1
    have h2 : 2 ^ 1 ≤ 2 ^ c := Nat.pow_le_pow_right (by decide) r
    omega
theorem MF_uniq : ∀ (c c' n : Nat) (Q Q' : Nat → Nat), MF c Q n → MF c' Q' n → c = c' ∧ ∀ i, i < c → Q i = Q' i
  | 0, c', n, Q, Q', h, h' => by
    have e : n = 1 := h.2.2.symm
    subst e
    exact ⟨(MF_one h').symm, fun i hi => by omega⟩
  | c + 1, 0, n, Q, Q', h, h' => by
    have e : n = 1 := h'.2.2.symm
    subst e
    exact absurd (MF_one h) (by omega)
  | c + 1, c' + 1, n, Q, Q', h, h' => by
    have d1 : Q c ∣ prodf Q' (c' + 1) := by rw [h'.2.2, ← h.2.2]; exact dvd_prodf (c + 1) (by omega)
    have d2 : Q' c' ∣ prodf Q (c + 1) := by rw [h.2.2, ← h'.2.2]; exact dvd_prodf (c' + 1) (by omega)
    obtain ⟨i, hi, ei⟩ := pr_prodf (h.1 c (by omega)) (c' + 1) h'.1 d1
    obtain ⟨j, hj, ej⟩ := pr_prodf (h'.1 c' (by omega)) (c + 1) h.1 d2
    have l1 := h'.2.1 i c' (by omega) (by omega)
    have l2 := h.2.1 j c (by omega) (by omega)
    have e : Q c = Q' c' := by omega
    have hp : 0 < Q c := by have := (h.1 c (by omega)).1; omega
    have hh := h.2.2
    have hh' := h'.2.2
    rw [prodf] at hh hh'
    have e2 : prodf Q c = prodf Q' c' := by
      have : prodf Q c * Q c = prodf Q' c' * Q c := by rw [hh, e, hh']
      exact Nat.eq_of_mul_eq_mul_right hp this
    obtain ⟨a1, a2⟩ := MF_uniq c c' (prodf Q c) Q Q' ⟨fun i hi => h.1 i (by omega), fun i j h1 h2 => h.2.1 i j h1 (by omega), rfl⟩ ⟨fun i hi => h'.1 i (by omega), fun i j h1 h2 => h'.2.1 i j h1 (by omega), e2.symm⟩
    subst a1
    refine ⟨rfl, fun i hi => ?_⟩
    rcases Nat.eq_or_lt_of_le (Nat.le_of_lt_succ hi) with r | r
    · subst r; exact e
    · exact a2 i r
/-- the primes of a split, each as often as it goes in -/
theorem Fac.mf : ∀ (u : Nat) {P E : Nat → Nat} {n : Nat}, Fac u P E n → ∃ Q, MF (fb_sm E u) Q n ∧ ∀ i, i < u → ∀ j, fb_sm E i ≤ j → j < fb_sm E (i + 1) → Q j = P i
  | 0, P, E, n, h => ⟨fun _ => 0, ⟨fun i hi => absurd hi (Nat.not_lt_zero i), fun i j _ hj => absurd hj (Nat.not_lt_zero j), h.2.2⟩, fun i hi => absurd hi (Nat.not_lt_zero i)⟩
  | u + 1, P, E, n, h => by
    obtain ⟨Q, ⟨q1, q2, q3⟩, q4⟩ := Fac.mf u h.down
    have hE : fb_sm E (u + 1) = fb_sm E u + E u := fb_sm_succ E u
    have hle : ∀ i, i < fb_sm E u → Q i < P u := by
      intro i hi
      -- Q i is a prime of the first u
      obtain ⟨k, hk, hk2⟩ : ∃ k, k < u ∧ P k = Q i := by
        have hd : Q i ∣ prodf (fun i => P i ^ E i) u := by rw [← q3]; exact dvd_prodf _ hi
        rcases Classical.em (∃ k, k < u ∧ P k = Q i) with r | r
        · exact r
        · exact absurd hd (h.down.free (q1 i hi) (fun k hk e => r ⟨k, hk, e⟩))
      rw [← hk2]
      exact h.2.1 k u hk (by omega)
    refine ⟨fun j => if j < fb_sm E u then Q j else P u, ⟨fun i hi => ?_, fun i j hij hj => ?_, ?_⟩, fun i hi j h1 h2 => ?_⟩
    · by_cases e : i < fb_sm E u
      · simp only [if_pos e]; exact q1 i e
      · simp only [if_neg e]; exact (h.1 u (by omega)).1
    · by_cases e : j < fb_sm E u
      · simp only [if_pos e, if_pos (show i < fb_sm E u by omega)]; exact q2 i j hij e
      · simp only [if_neg e]
        by_cases e2 : i < fb_sm E u
        · simp only [if_pos e2]; exact Nat.le_of_lt (hle i e2)
        · simp only [if_neg e2]; exact Nat.le_refl _
    · rw [hE, prodf_run (p := P u) (E u) (fun i h1 h2 => by simp only [if_neg (show ¬ i < fb_sm E u by omega)]), ← h.2.2, prodf, ← q3]
      congr 1
      exact prodf_cong (fun i hi => by simp only [if_pos hi])
    · rcases Nat.eq_or_lt_of_le (Nat.le_of_lt_succ hi) with r | r
      · subst r
        simp only [if_neg (show ¬ j < fb_sm E i by omega)]
      · have hb : fb_sm E (i + 1) ≤ fb_sm E u := by
          have := fb_sm_mono E (i + 1) (u - (i + 1))
          rw [show i + 1 + (u - (i + 1)) = u by omega] at this
          exact this
        simp only [if_pos (show j < fb_sm E u by omega)]
        exact q4 i r j h1 h2
theorem sm_pre (E : Nat → Nat) {i u : Nat} (h : i ≤ u) : fb_sm E i ≤ fb_sm E u := by
  have := fb_sm_mono E i (u - i)
  rw [show i + (u - i) = u by omega] at this
  exact this
theorem howManyPrimes_f (N : Nat) (hN : 100 ≤ N) {uu : Nat} (hu : uu ≤ 12) {T : Nat → Int32} {EE : Nat → Nat} (hv : ∀ i, i < uu → T i = nI (EE i)) : f_X6_howManyPrimes N (nI uu) T = some (nI (fb_sm EE uu)) := by
  have go : ∀ (d n i : Nat), i + d = uu → d < n → l_X6_howManyPrimes_4 N (nI uu) T n (nI (fb_sm EE i), nI i) = some (nI (fb_sm EE uu)) := by
    intro d
    induction d with
    | zero =>
      intro n i h1 h2
      obtain ⟨n, rfl⟩ : ∃ z, n = z + 1 := ⟨n - 1, by omega⟩
      show s_X6_howManyPrimes_4 N (nI uu) T (l_X6_howManyPrimes_4 N (nI uu) T n) (nI (fb_sm EE i)) (nI i) = _
      unfold s_X6_howManyPrimes_4
      rw [if_pos (L_le uu i (by omega) (by omega)), show i = uu by omega]
    | succ d ih =>
      intro n i h1 h2
      obtain ⟨n, rfl⟩ : ∃ z, n = z + 1 := ⟨n - 1, by omega⟩
      show s_X6_howManyPrimes_4 N (nI uu) T (l_X6_howManyPrimes_4 N (nI uu) T n) (nI (fb_sm EE i)) (nI i) = _
      unfold s_X6_howManyPrimes_4
      rw [if_neg (L_nle uu i (by omega) (by omega)), if_neg (L_nle 12 i (by omega) (by decide)), if_neg (L_in i 12 (by omega) (by omega)), nI_clamp (by omega), hv i (by omega)]
      simp only [xl]
      rw [nI_add, ← fb_sm_succ, show nI i + (1 : Int32) = nI (i + 1) from nI_1 i]
      exact ih n (i + 1) (by omega) (by omega)
  unfold f_X6_howManyPrimes
  exact go uu N 0 (by omega) (by omega)
theorem primeAt_f (N : Nat) (hN : 100 ≤ N) {uu j : Nat} (hu : uu ≤ 12) (hj : j < 2 ^ 31) {P : Nat → Int64} {T : Nat → Int32} {PP EE Q : Nat → Nat} (hv : ∀ i, i < uu → P i = lN (PP i) ∧ T i = nI (EE i)) (hb : fb_sm EE uu ≤ 34) (hQ : ∀ i, i < uu → ∀ j, fb_sm EE i ≤ j → j < fb_sm EE (i + 1) → Q j = PP i) : f_X6_primeAt N (nI j) (nI uu) P T = some (if j < fb_sm EE uu then lN (Q j) else -4) := by
  have go : ∀ (d n i : Nat), i + d = uu → d < n → fb_sm EE i ≤ j → l_X6_primeAt_4 N (nI j) (nI uu) P T n (nI (fb_sm EE i), nI i) = some (if j < fb_sm EE uu then lN (Q j) else -4) := by
    intro d
    induction d with
    | zero =>
      intro n i h1 h2 h3
      obtain ⟨n, rfl⟩ : ∃ z, n = z + 1 := ⟨n - 1, by omega⟩
      show s_X6_primeAt_4 N (nI j) (nI uu) P T (l_X6_primeAt_4 N (nI j) (nI uu) P T n) (nI (fb_sm EE i)) (nI i) = _
      unfold s_X6_primeAt_4
      have e : i = uu := by omega
      subst e
      rw [if_pos (L_le i i (by omega) (by omega)), if_neg (show ¬ j < fb_sm EE i by omega)]
    | succ d ih =>
      intro n i h1 h2 h3
      obtain ⟨n, rfl⟩ : ∃ z, n = z + 1 := ⟨n - 1, by omega⟩
      show s_X6_primeAt_4 N (nI j) (nI uu) P T (l_X6_primeAt_4 N (nI j) (nI uu) P T n) (nI (fb_sm EE i)) (nI i) = _
      unfold s_X6_primeAt_4
      have hm := sm_pre EE (show i + 1 ≤ uu by omega)
      rw [if_neg (L_nle uu i (by omega) (by omega)), if_neg (L_nle 12 i (by omega) (by decide)), if_neg (L_in i 12 (by omega) (by omega)), nI_clamp (by omega), (hv i (by omega)).2, (hv i (by omega)).1]
      simp only [xl]
      rw [nI_add, ← fb_sm_succ, show nI i + (1 : Int32) = nI (i + 1) from nI_1 i]
      by_cases h : fb_sm EE (i + 1) ≤ j
      · rw [if_pos (L_le _ j h hj)]
        exact ih n (i + 1) (by omega) (by omega) h
      · rw [if_neg (L_nle (fb_sm EE (i + 1)) j (by omega) (by omega)), hQ i (by omega) j h3 (by omega) |>.symm, if_pos (show j < fb_sm EE uu by omega)]
  unfold f_X6_primeAt
  exact go uu N 0 (by omega) (by omega) (Nat.zero_le j)
theorem prime_eq (N : Nat) (hN : 2 ^ 40 ≤ N) (v1 : Int64) (v3 : Int32) {u : Int32} {num : Int64} {P : Nat → Int64} {T : Nat → Int32} {n_row n_list : Nat} {a_row a_list : Nat → Int32} (hS : SpOK u num P T) (hL : LsOK n_row n_list a_list) : ∃ (ans : Int64) (dC dS : Nat), dC ≤ 8 ∧ dS ≤ 400000 ∧ (∀ MC MS, dC ≤ MC → dS ≤ MS → ∃ (u' : Int32) (num' : Int64) (n_row' : Nat) (a_row' : Nat → Int32) (n_list' : Nat) (a_list' : Nat → Int32) (P' : Nat → Int64) (T' : Nat → Int32), f_X11_prime N MC MS v1 v3 u num n_row a_row n_list a_list P T = some (ans, u', num', n_row', a_row', n_list', a_list', P', T') ∧ SpOK u' num' P' T' ∧ (LsOK n_row' n_list' a_list' ∧ n_row ≤ n_row' ∧ n_list ≤ n_list') ∧ (if n_row' = n_row then 0 else 1) + (if n_list' = n_list then 0 else 1) = dC ∧ (n_row' - n_row) + (n_list' - n_list) = dS) ∧ ∀ (pm : Int32) (arr : Nat → Int64), ∃ (pm' : Int32) (arr' : Nat → Int64), f_X12_prime N v1 v3 pm arr = some (ans, pm', arr') := by
  have h40 : (2 : Nat) ^ 40 = 1099511627776 := by decide
  have z2 : ∀ a b : Nat, (0 : Nat) ≤ a ∧ 0 ≤ b := fun a b => ⟨Nat.zero_le _, Nat.zero_le _⟩
  have one : ¬ (1 : Int32) = 0 := by decide
  rcases isNum_f N v1 with ⟨n, n0, nb, rfl, i1, i2⟩ | ⟨i1, i2⟩
  · by_cases hv : (-1 : Int32) ≤ v3
    · obtain ⟨eC, eS⟩ := c3_eq hL
      have hle := cC3_le n_row n_list
      obtain ⟨fC, fS⟩ := c3_diff hL
      obtain ⟨w0, Q0, arr0, e0, hw0, hQ0, hv0⟩ := layPrimes_f N hN n0 nb 0 (fun _ => 0)
      refine ⟨if v3 = -1 then (nI w0).toInt64 else if v3.toNatClampNeg < w0 then lN (Q0 v3.toNatClampNeg) else -4, cC3 n_row n_list, cS3 n_row n_list, by omega, by omega, fun MC MS h1 h2 => ?_, fun pm arr => ?_⟩
      · obtain ⟨ar, al, p1, p2⟩ := prep3 N (by omega) hL (Nat.le_refl _) (Nat.le_refl _) a_row
        obtain ⟨w, P', T', s1, hw, PP, EE, hF, hvv⟩ := splitUp_f N (by omega) p2 hS n0 nb
        obtain ⟨Q, hM, hQ⟩ := Fac.mf w hF
        obtain ⟨u1, u2⟩ := MF_uniq _ _ _ _ _ hM hQ0
        refine ⟨nI w, lN n, 50001, ar, 9592, al, P', T', ?_, ⟨w, n, rfl, rfl, hw, n0, nb, PP, EE, hF, hvv⟩, ⟨LsOK.done (n_row := 0) (n_list := 0) p2, hL.le⟩, fC, fS⟩
        have hbu : 0 + cC3 n_row n_list ≤ MC ∧ 0 + cS3 n_row n_list ≤ MS := ⟨by omega, by omega⟩
        unfold f_X11_prime
        rw [eC, eS, i1, if_pos (z2 MC MS), ob, if_neg one, if_pos hv, if_pos hbu, p1, ob, if_pos hbu, s1, ob]
        rcases idx_of hv with rfl | ⟨j, hj, rfl⟩
        · rw [if_pos rfl, if_pos hbu, howManyPrimes_f N (by omega) hw (fun i hi => (hvv i hi).2), ob, if_pos hbu, if_pos rfl, u1]
        · rw [if_neg (nI_nem hj), if_pos hbu, primeAt_f N (by omega) hw hj hvv (by omega) hQ, ob, if_pos hbu, if_neg (nI_nem hj), nI_clamp hj]
          by_cases hjw : j < w0
          · rw [if_pos hjw, if_pos (by omega), u2 j (by omega)]
          · rw [if_neg hjw, if_neg (by omega)]
      · obtain ⟨w1, Q1, arr1, e1, hw1, hQ1, hv1⟩ := layPrimes_f N hN n0 nb pm arr
        obtain ⟨u1, u2⟩ := MF_uniq _ _ _ _ _ hQ1 hQ0
        refine ⟨nI w1, arr1, ?_⟩
        unfold f_X12_prime
        rw [i2, ob, if_neg one, if_pos hv, e1, ob]
        rcases idx_of hv with rfl | ⟨j, hj, rfl⟩
        · rw [if_neg (show ¬ (0 : Int32) ≤ -1 by decide), if_pos rfl, u1]
        · rw [if_pos (nI_ge0 hj), if_neg (nI_nem hj), nI_clamp hj]
          by_cases hjw : j < w0
          · rw [if_neg (L_nle w1 j (by omega) (by omega)), if_neg (by have h := L_in j 40 (by omega) hj; rw [nI_clamp hj] at h; exact h), if_pos hjw]
            show some (arr1 j, nI w1, arr1) = _
            rw [hv1 j (by omega), u2 j (by omega)]
          · rw [if_pos (L_le w1 j (by omega) hj), if_neg hjw]
    · refine ⟨-1, 0, 0, by decide, by decide, fun MC MS _ _ => ⟨u, num, n_row, a_row, n_list, a_list, P, T, ?_, hS, ⟨hL, Nat.le_refl _, Nat.le_refl _⟩, by simp, by simp⟩, fun pm arr => ⟨pm, arr, ?_⟩⟩
      · unfold f_X11_prime
        rw [i1, if_pos (z2 MC MS), ob, if_neg one, if_neg hv, if_pos (z2 MC MS)]
      · unfold f_X12_prime
        rw [i2, ob, if_neg one, if_neg hv]
  · refine ⟨-1, 0, 0, by decide, by decide, fun MC MS _ _ => ⟨u, num, n_row, a_row, n_list, a_list, P, T, ?_, hS, ⟨hL, Nat.le_refl _, Nat.le_refl _⟩, by simp, by simp⟩, fun pm arr => ⟨pm, arr, ?_⟩⟩
    · unfold f_X11_prime
      rw [i1, if_pos (z2 MC MS), ob, if_pos rfl, if_pos (z2 MC MS)]
    · unfold f_X12_prime
      rw [i2, ob, if_pos rfl]
