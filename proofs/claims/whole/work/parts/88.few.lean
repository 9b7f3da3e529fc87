/-! at most 640 numbers have one sum -/
theorem ct_or_le {P A B : Nat → Bool} : ∀ {n : Nat}, (∀ k, k < n → P k = true → A k = true ∨ B k = true) → fb_ct P n ≤ fb_ct A n + fb_ct B n
  | 0, _ => Nat.le_refl _
  | n + 1, h => by
    have ih := ct_or_le (P := P) (A := A) (B := B) (n := n) (fun k hk => h k (by omega))
    rw [fb_ct_succ, fb_ct_succ, fb_ct_succ]
    by_cases c : P n = true
    · rw [if_pos c]
      rcases h n (by omega) c with w | w
      · rw [if_pos w]; omega
      · rw [if_pos w]; omega
    · rw [if_neg c]; omega
theorem p46_cov : ∀ q, q < 211 → prB q = true → q ∈ p46 := by decide +kernel
theorem pr_prodz {q : Nat} (hq : pr q) : ∀ l : List Nat, q ∣ prodz l → ∃ p, p ∈ l ∧ q ∣ p
  | [], h => by
    have h : q ∣ 1 := h
    have := Nat.le_of_dvd (by decide) h
    have := hq.1
    omega
  | p :: ps, h => by
    have h : q ∣ p * prodz ps := h
    rcases pr_mul hq h with w | w
    · exact ⟨p, List.mem_cons_self, w⟩
    · obtain ⟨r, hr, hd⟩ := pr_prodz hq ps w
      exact ⟨r, List.mem_cons_of_mem _ hr, hd⟩
theorem p46_small : ∀ p ∈ p46, p < 211 := by decide +kernel
theorem great_cop {q : Nat} (hq : pr q) (hg : 211 ≤ q) : Nat.gcd q (prodz p46) = 1 := by
  refine pr_cop hq (fun w => ?_)
  obtain ⟨p, hp, hd⟩ := pr_prodz hq p46 w
  have h1 := pr_eq hq ((prB_iff p).mp (p46_pr p hp)) hd
  have h2 := p46_small p hp
  omega
theorem great_odd {q : Nat} (hq : pr q) (hg : 211 ≤ q) : q % 2 = 1 := by
  rcases Nat.mod_two_eq_zero_or_one q with w | w
  · have h1 := hq.2 2 (Nat.dvd_of_mod_eq_zero w)
    omega
  · exact w
theorem sgp_iff {m n : Nat} : sgp m n = true ↔ (1 ≤ n ∧ sg n = m) := by
  unfold sgp
  rw [Bool.and_eq_true, decide_eq_true_eq, decide_eq_true_eq]
theorem hcnt_640 (m : Nat) (hm1 : 1 ≤ m) (hm : m ≤ 1000000) : fb_ct (sgp m) (m + 1) ≤ 640 := by
  -- a great prime, how often, and what is left
  have hsk : ∀ n, ∃ g : Nat × Nat × Nat, (1 ≤ n ∧ smB p46 n = false) → pr g.1 ∧ 211 ≤ g.1 ∧ 1 ≤ g.2.1 ∧ n = g.1 ^ g.2.1 * g.2.2 ∧ ¬ g.1 ∣ g.2.2 ∧ 0 < g.2.2 := by
    intro n
    by_cases c : 1 ≤ n ∧ smB p46 n = false
    · obtain ⟨c1, c2⟩ := c
      have hex : ∃ q, pr q ∧ q ∣ n ∧ ¬ q ∈ p46 := by
        refine Classical.byContradiction (fun hno => ?_)
        have : smB p46 n = true := (smB_iff c1).mpr (fun q hq hd => Classical.byContradiction (fun hn => hno ⟨q, hq, hd, hn⟩))
        rw [c2] at this
        exact absurd this (by decide)
      obtain ⟨q, hq, hd, hn⟩ := hex
      have hg : 211 ≤ q := by
        rcases Nat.lt_or_ge q 211 with w | w
        · exact absurd (p46_cov q w ((prB_iff q).mpr hq)) hn
        · exact w
      obtain ⟨k, z, a, b, d⟩ := split_pow hq.1 c1
      refine ⟨(q, k, z), fun _ => ⟨hq, hg, ?_, a, b, d⟩⟩
      show 1 ≤ k
      rcases Nat.eq_zero_or_pos k with w | w
      · subst w
        rw [Nat.pow_zero, Nat.one_mul] at a
        subst a
        exact absurd hd b
      · exact w
    · exact ⟨(0, 0, 0), fun w => absurd w c⟩
  obtain ⟨g, hg⟩ := Classical.skolem.mp hsk
  have h1 : fb_ct (sgp m) (m + 1) ≤ fb_ct (fun n => sgp m n && smB p46 n) (m + 1) + fb_ct (fun n => sgp m n && !smB p46 n) (m + 1) := ct_or_le (fun k _ hk => by
    by_cases hb : smB p46 k = true
    · left; simp [hk, hb]
    · right; simp [hk, hb])
  have h2 : fb_ct (fun n => sgp m n && !smB p46 n) (m + 1) ≤ fb_ct (fun n => (sgp m n && !smB p46 n) && decide ((g n).2.1 = 1)) (m + 1) + fb_ct (fun n => (sgp m n && !smB p46 n) && !decide ((g n).2.1 = 1)) (m + 1) := ct_or_le (fun k _ hk => by
    by_cases hb : (g k).2.1 = 1
    · left
      show ((sgp m k && !smB p46 k) && decide ((g k).2.1 = 1)) = true
      rw [Bool.and_eq_true]
      exact ⟨hk, decide_eq_true hb⟩
    · right
      show ((sgp m k && !smB p46 k) && !decide ((g k).2.1 = 1)) = true
      rw [Bool.and_eq_true]
      exact ⟨hk, by simp [hb]⟩)
  -- what the flags say
  have open1 : ∀ n, (sgp m n && !smB p46 n) = true → 1 ≤ n ∧ sg n = m ∧ pr (g n).1 ∧ 211 ≤ (g n).1 ∧ 1 ≤ (g n).2.1 ∧ n = (g n).1 ^ (g n).2.1 * (g n).2.2 ∧ ¬ (g n).1 ∣ (g n).2.2 ∧ 0 < (g n).2.2 := by
    intro n h
    rw [Bool.and_eq_true, Bool.not_eq_true'] at h
    obtain ⟨a, b⟩ := sgp_iff.mp h.1
    exact ⟨a, b, hg n ⟨a, h.2⟩⟩
  have hA : fb_ct (fun n => sgp m n && smB p46 n) (m + 1) ≤ 286 := by
    refine Nat.le_trans ?_ (smooth_few hm)
    refine ct_inj (fun n => n) (fun n hn h => ?_) (fun x y _ _ _ _ e => e)
    have h : (sgp m n && smB p46 n) = true := h
    show n < 1000000 + 1 ∧ smP p46 1 (eqmz m) n = true
    rw [Bool.and_eq_true] at h
    obtain ⟨a, b⟩ := sgp_iff.mp h.1
    refine ⟨by omega, smP_iff.mpr ⟨a, (smB_iff a).mp h.2, ?_⟩⟩
    rw [Nat.one_mul, b]
    show decide (m = m) = true
    exact decide_eq_true rfl
  have hB : fb_ct (fun n => (sgp m n && !smB p46 n) && decide ((g n).2.1 = 1)) (m + 1) ≤ 332 := by
    have key : ∀ n, ((sgp m n && !smB p46 n) && decide ((g n).2.1 = 1)) = true → pr (g n).1 ∧ 211 ≤ (g n).1 ∧ n = (g n).1 * (g n).2.2 ∧ 0 < (g n).2.2 ∧ ((g n).1 + 1) * sg (g n).2.2 = m := by
      intro n h
      rw [Bool.and_eq_true, decide_eq_true_eq] at h
      obtain ⟨a, b, c1, c2, c3, c4, c5, c6⟩ := open1 n h.1
      have h5 := sg_pow c1 c5 c6 (g n).2.1
      rw [← c4, b, h.2, gs_one] at h5
      rw [h.2, Nat.pow_one] at c4
      exact ⟨c1, c2, c4, c6, h5.symm⟩
    refine Nat.le_trans ?_ (B_few (x := m / 2) (by omega))
    refine ct_inj (fun n => (g n).2.2) (fun n hn h => ?_) (fun x y hx hy h1 h2 e => ?_)
    · obtain ⟨c1, c2, c3, c4, c5⟩ := key n h
      have c4' : 1 ≤ (g n).2.2 := c4
      have hz := sg_n c4'
      show (g n).2.2 < 4716 + 1 ∧ smP plz 1 (RGz (m / 2)) (g n).2.2 = true
      obtain ⟨q, hq⟩ : ∃ q, q = (g n).1 := ⟨_, rfl⟩
      obtain ⟨z, hz0⟩ : ∃ z, z = (g n).2.2 := ⟨_, rfl⟩
      rw [← hq] at c1 c2 c5
      rw [← hz0] at c4 c4' c5 hz ⊢
      have hodd := great_odd c1 c2
      obtain ⟨j, hj⟩ : ∃ j, q + 1 = 2 * j := ⟨(q + 1) / 2, by omega⟩
      have hj2 : 106 ≤ j := by omega
      have e1 : m / 2 = j * sg z := by
        rw [← c5, hj, Nat.mul_assoc]
        exact Nat.mul_div_cancel_left _ (by decide)
      have e2 : 106 * sg z ≤ j * sg z := Nat.mul_le_mul_right _ hj2
      have e3 : 2 * (m / 2) = (q + 1) * sg z := by rw [e1, hj, Nat.mul_assoc]
      have hs : sg z ≤ 4716 := by omega
      have hs0 : 0 < sg z := by omega
      refine ⟨by omega, smP_iff.mpr ⟨c4', fun p hp hd => ?_, ?_⟩⟩
      · have := Nat.le_of_dvd c4 hd
        exact (plz_iff p).mpr ⟨by omega, pr_ckz hp⟩
      · rw [Nat.one_mul]
        unfold RGz
        rw [Bool.and_eq_true, decide_eq_true_eq]
        refine ⟨RBz_iff.mpr ⟨by omega, ?_, by omega⟩, ?_⟩
        · rw [e1]; exact Nat.dvd_mul_left _ _
        · rw [e3, Nat.mul_div_cancel _ hs0, Nat.add_sub_cancel]
          exact great_cop c1 c2
    · obtain ⟨a1, a2, a3, a4, a5⟩ := key x h1
      obtain ⟨b1, b2, b3, b4, b5⟩ := key y h2
      have e : (g x).2.2 = (g y).2.2 := e
      rw [e] at a3 a5
      have b4' : 1 ≤ (g y).2.2 := b4
      have hz := sg_n b4'
      have e2 : ((g x).1 + 1) = ((g y).1 + 1) := Nat.eq_of_mul_eq_mul_right (show 0 < sg (g y).2.2 by omega) (a5.trans b5.symm)
      have e3 : (g x).1 = (g y).1 := by omega
      exact a3.trans (by rw [e3]; exact b3.symm)
  have hC : fb_ct (fun n => (sgp m n && !smB p46 n) && !decide ((g n).2.1 = 1)) (m + 1) ≤ 22 := by
    have key : ∀ n, n < m + 1 → ((sgp m n && !smB p46 n) && !decide ((g n).2.1 = 1)) = true → 211 ≤ (g n).1 ∧ n = (g n).1 ^ 2 * (g n).2.2 ∧ 0 < (g n).2.2 ∧ (g n).2.2 < 23 ∧ ((g n).1 * (g n).1 + (g n).1 + 1) * sg (g n).2.2 = m := by
      intro n hn h
      rw [Bool.and_eq_true, Bool.not_eq_true', decide_eq_false_iff_not] at h
      obtain ⟨a, b, c1, c2, c3, c4, c5, c6⟩ := open1 n h.1
      have h5 := sg_pow c1 c5 c6 (g n).2.1
      rw [← c4, b] at h5
      have hk : (g n).2.1 = 2 := by
        rcases Nat.lt_or_ge (g n).2.1 3 with w | w
        · have := h.2
          omega
        · exfalso
          have e1 : 211 ^ (g n).2.1 ≤ (g n).1 ^ (g n).2.1 := Nat.pow_le_pow_left c2 _
          have e2 : 211 ^ 3 ≤ 211 ^ (g n).2.1 := Nat.pow_le_pow_right (by decide) w
          have e3 : (g n).1 ^ (g n).2.1 * 1 ≤ (g n).1 ^ (g n).2.1 * (g n).2.2 := Nat.mul_le_mul_left _ c6
          have e4 : (211 : Nat) ^ 3 = 9393931 := by decide
          omega
      rw [hk, gs_two] at h5
      rw [hk] at c4
      refine ⟨c2, c4, c6, ?_, h5.symm⟩
      have e1 : 211 ^ 2 ≤ (g n).1 ^ 2 := Nat.pow_le_pow_left c2 _
      have e2 : 211 ^ 2 * (g n).2.2 ≤ (g n).1 ^ 2 * (g n).2.2 := Nat.mul_le_mul_right _ e1
      have e4 : (211 : Nat) ^ 2 = 44521 := by decide
      rw [e4] at e2
      omega
    have h22 : fb_ct (fun z => decide (1 ≤ z)) 23 = 22 := by decide
    rw [← h22]
    refine ct_inj (fun n => (g n).2.2) (fun n hn h => ?_) (fun x y hx hy h1 h2 e => ?_)
    · obtain ⟨_, _, c3, c4, _⟩ := key n hn h
      exact ⟨c4, decide_eq_true c3⟩
    · obtain ⟨a1, a3, a4, _, a5⟩ := key x hx h1
      obtain ⟨b1, b3, b4, _, b5⟩ := key y hy h2
      have e : (g x).2.2 = (g y).2.2 := e
      rw [e] at a3 a5
      have b4' : 1 ≤ (g y).2.2 := b4
      have hz := sg_n b4'
      have e2 : ((g x).1 * (g x).1 + (g x).1 + 1) = ((g y).1 * (g y).1 + (g y).1 + 1) := Nat.eq_of_mul_eq_mul_right (show 0 < sg (g y).2.2 by omega) (a5.trans b5.symm)
      have e3 : (g x).1 = (g y).1 := by
        rcases Nat.lt_trichotomy (g x).1 (g y).1 with w | w | w
        · have := Nat.mul_le_mul (Nat.le_of_lt w) (Nat.le_of_lt w)
          omega
        · exact w
        · have := Nat.mul_le_mul (Nat.le_of_lt w) (Nat.le_of_lt w)
          omega
      exact a3.trans (by rw [e3]; exact b3.symm)
  omega
