/-! numbers: what divides, primes, sums over what divides -/
def pr (p : Nat) : Prop := 2 ≤ p ∧ ∀ d, d ∣ p → d = 1 ∨ d = p
theorem pr_cop {p a : Nat} (hp : pr p) (h : ¬ p ∣ a) : Nat.Coprime p a := by
  rcases hp.2 _ (Nat.gcd_dvd_left p a) with h1 | h1
  · exact h1
  · exact absurd (h1 ▸ Nat.gcd_dvd_right p a) h
theorem pr_mul {p a b : Nat} (hp : pr p) (h : p ∣ a * b) : p ∣ a ∨ p ∣ b := by
  by_cases ha : p ∣ a
  · exact Or.inl ha
  · exact Or.inr ((pr_cop hp ha).dvd_of_dvd_mul_left h)
theorem pr_pow {p q : Nat} (hp : pr p) : ∀ k, p ∣ q ^ k → p ∣ q
  | 0, h => by
    have h1 := Nat.le_of_dvd (show 0 < 1 from Nat.one_pos) (show p ∣ 1 from h)
    have := hp.1
    omega
  | k + 1, h => by
    rw [Nat.pow_succ] at h
    rcases pr_mul hp h with h | h
    · exact pr_pow hp k h
    · exact h
theorem pr_eq {p q : Nat} (hp : pr p) (hq : pr q) (h : p ∣ q) : p = q := by
  rcases hq.2 p h with h1 | h1
  · have := hp.1; omega
  · exact h1
theorem pr_least {n p : Nat} (h2 : 2 ≤ p) (hd : p ∣ n) (hm : ∀ d, 2 ≤ d → d ∣ n → p ≤ d) : pr p := by
  refine ⟨h2, fun d h => ?_⟩
  have hdn : d ∣ n := Nat.dvd_trans h hd
  have hle : d ≤ p := Nat.le_of_dvd (by omega) h
  rcases Nat.lt_or_ge d 2 with h3 | h3
  · have : d ≠ 0 := by
      intro e
      subst e
      have := Nat.eq_zero_of_zero_dvd h
      omega
    omega
  · have := hm d h3 hdn
    omega
theorem pr_has {n : Nat} (h : 2 ≤ n) : ∃ p, pr p ∧ p ∣ n ∧ ∀ d, 2 ≤ d → d ∣ n → p ≤ d := by
  obtain ⟨p, ⟨h1, h2⟩, h3⟩ := pk_least (fun k => 2 ≤ k ∧ k ∣ n) ⟨n, h, Nat.dvd_refl n⟩
  have hm : ∀ d, 2 ≤ d → d ∣ n → p ≤ d := fun d a b => by
    rcases Nat.lt_or_ge d p with q | q
    · exact absurd ⟨a, b⟩ (h3 d q)
    · exact q
  exact ⟨p, pr_least h1 h2 hm, h2, hm⟩
/-- a number that no smaller number up to its root divides is a prime -/
theorem pr_root {n : Nat} (h : 2 ≤ n) (hn : ∀ d, 2 ≤ d → d * d ≤ n → ¬ d ∣ n) : pr n := by
  refine ⟨h, fun d hd => ?_⟩
  obtain ⟨e, rfl⟩ := hd
  rcases Nat.eq_zero_or_pos d with rfl | hd0
  · simp at h
  rcases Nat.eq_zero_or_pos e with rfl | he0
  · simp at h
  rcases Nat.lt_or_ge d 2 with h1 | h1
  · left; omega
  rcases Nat.lt_or_ge e 2 with h2 | h2
  · right
    have : e = 1 := by omega
    subst this
    simp
  exfalso
  rcases Nat.le_total d e with q | q
  · exact hn d h1 (Nat.mul_le_mul_left d q) (Nat.dvd_mul_right d e)
  · exact hn e h2 (Nat.mul_le_mul_right e q) (Nat.dvd_mul_left e d)
/-! sums -/
theorem fs_one (f : Nat → Nat) (c : Nat) : ∀ n, c < n → (∀ k, k < n → k ≠ c → f k = 0) → fb_sm f n = f c
  | 0, h, _ => absurd h (Nat.not_lt_zero c)
  | n + 1, h, h0 => by
    rw [fb_sm_succ]
    rcases Nat.lt_or_ge c n with q | q
    · rw [fs_one f c n q (fun k hk hc => h0 k (by omega) hc), h0 n (by omega) (by omega)]; rfl
    · have e : c = n := by omega
      subst e
      have hz : fb_sm f c = fb_sm (fun _ => 0) c := fb_sm_cong (fun k hk => h0 k (by omega) (by omega))
      rw [hz, fb_sm_const]
      simp
/-- a sum over the multiples of p -/
theorem fs_mult (g : Nat → Nat) {p : Nat} (hp : 0 < p) : ∀ n, fb_sm (fun d => if p ∣ d then g d else 0) (p * n + 1) = fb_sm (fun e => g (p * e)) (n + 1)
  | 0 => by simp [fb_sm]
  | n + 1 => by
    have e : p * (n + 1) + 1 = (p * n + 1) + p := by rw [Nat.mul_succ]; omega
    rw [e, fb_sm_split, fs_mult g hp n, fb_sm_succ _ (n + 1)]
    congr 1
    rw [fs_one _ (p - 1) p (by omega)]
    · have e2 : p * n + 1 + (p - 1) = p * (n + 1) := by rw [Nat.mul_succ]; omega
      simp only [e2]
      rw [if_pos (Nat.dvd_mul_right p (n + 1))]
    · intro k hk hc
      apply if_neg
      intro hd
      have : p ∣ k + 1 := by
        have h1 : p * n + 1 + k = p * n + (k + 1) := by omega
        rw [h1] at hd
        exact (Nat.dvd_add_right (Nat.dvd_mul_right p n)).mp hd
      have := Nat.le_of_dvd (by omega) this
      omega
/-- the sum of w over what divides n -/
def sw (w : Nat → Nat) (n : Nat) : Nat := fb_sm (fun d => if d ∣ n then w d else 0) (n + 1)
theorem sw_far (w : Nat → Nat) {n M : Nat} (hn : 0 < n) (h : n ≤ M) : fb_sm (fun d => if d ∣ n then w d else 0) (M + 1) = sw w n := by
  obtain ⟨k, rfl⟩ := Nat.exists_eq_add_of_le h
  have e : n + k + 1 = (n + 1) + k := by omega
  rw [e, fb_sm_split]
  have hz : fb_sm (fun j => if (n + 1 + j) ∣ n then w (n + 1 + j) else 0) k = fb_sm (fun _ => 0) k := fb_sm_cong (fun j hj => if_neg (fun hd => by have := Nat.le_of_dvd hn hd; omega))
  rw [hz, fb_sm_const]
  simp [sw]
theorem sw_one (w : Nat → Nat) : sw w 1 = w 1 := by
  unfold sw
  rw [fs_one _ 1 2 (by decide)]
  · simp
  · intro k hk hc
    have : k = 0 := by omega
    subst this
    simp
theorem cop_pow {p d : Nat} (hp : pr p) (h : ¬ p ∣ d) (k : Nat) : Nat.Coprime d (p ^ k) := by
  have : Nat.Coprime d p := (pr_cop hp h).symm
  exact Nat.Coprime.pow_right k this
/-- the step by a prime: what divides p n is p times what divides n, or divides what is free of p -/
theorem sw_step (w : Nat → Nat) {p c m k : Nat} (hp : pr p) (hm : ¬ p ∣ m) (hm0 : 0 < m) (hw : ∀ e, w (p * e) = c * w e) : sw w (p ^ (k + 1) * m) = c * sw w (p ^ k * m) + sw w m := by
  have hp0 : 0 < p := by have := hp.1; omega
  have hn0 : 0 < p ^ k * m := Nat.mul_pos (Nat.pow_pos hp0) hm0
  have e : p ^ (k + 1) * m = p * (p ^ k * m) := by rw [Nat.pow_succ, Nat.mul_comm (p ^ k) p, Nat.mul_assoc]
  have hs : ∀ d, (if d ∣ p * (p ^ k * m) then w d else 0) = (if p ∣ d then (if d ∣ p * (p ^ k * m) then w d else 0) else 0) + (if d ∣ m then w d else 0) := by
    intro d
    by_cases h1 : p ∣ d
    · rw [if_pos h1, if_neg (c := d ∣ m) (fun h => hm (Nat.dvd_trans h1 h))]
      rfl
    · rw [if_neg h1, Nat.zero_add]
      by_cases h2 : d ∣ m
      · rw [if_pos h2, if_pos]
        exact Nat.dvd_trans h2 (Nat.dvd_trans (Nat.dvd_mul_left m (p ^ k)) (Nat.dvd_mul_left _ p))
      · rw [if_neg h2, if_neg]
        intro h3
        rw [← e] at h3
        exact h2 ((cop_pow hp h1 (k + 1)).dvd_of_dvd_mul_left h3)
  have hL : sw w (p * (p ^ k * m)) = fb_sm (fun d => (if p ∣ d then (if d ∣ p * (p ^ k * m) then w d else 0) else 0) + (if d ∣ m then w d else 0)) (p * (p ^ k * m) + 1) := fb_sm_cong (fun d _ => hs d)
  rw [e, hL, fb_sm_add, fs_mult _ hp0, sw_far w hm0]
  · congr 1
    have h5 : fb_sm (fun x => if p * x ∣ p * (p ^ k * m) then w (p * x) else 0) (p ^ k * m + 1) = fb_sm (fun x => c * (if x ∣ p ^ k * m then w x else 0)) (p ^ k * m + 1) := by
      refine fb_sm_cong (fun x _ => ?_)
      by_cases hx : x ∣ p ^ k * m
      · rw [if_pos hx, if_pos (Nat.mul_dvd_mul_left p hx), hw]
      · rw [if_neg hx, if_neg]
        · rfl
        · intro h; exact hx (Nat.dvd_of_mul_dvd_mul_left hp0 h)
    rw [h5]
    unfold sw
    generalize p ^ k * m + 1 = M
    induction M with
    | zero => rfl
    | succ M ih => rw [fb_sm_succ, fb_sm_succ, ih, Nat.mul_add]
  · calc m ≤ p ^ k * m := Nat.le_mul_of_pos_left m (Nat.pow_pos hp0)
      _ ≤ p * (p ^ k * m) := Nat.le_mul_of_pos_left _ hp0
/-- 1 + c + .. + c^k -/
def gs (c : Nat) : Nat → Nat
  | 0 => 1
  | k + 1 => c * gs c k + 1
theorem sw_pow (w : Nat → Nat) {p c m : Nat} (hp : pr p) (hm : ¬ p ∣ m) (hm0 : 0 < m) (hw : ∀ e, w (p * e) = c * w e) : ∀ k, sw w (p ^ k * m) = gs c k * sw w m
  | 0 => by simp [gs]
  | k + 1 => by rw [sw_step w hp hm hm0 hw, sw_pow w hp hm hm0 hw k, gs, Nat.add_mul, Nat.one_mul, Nat.mul_assoc]
def sg (n : Nat) : Nat := sw (fun d => d) n
def tau (n : Nat) : Nat := sw (fun _ => 1) n
theorem sg_1 : sg 1 = 1 := sw_one _
theorem tau_1 : tau 1 = 1 := sw_one _
theorem sg_pow {p m : Nat} (hp : pr p) (hm : ¬ p ∣ m) (hm0 : 0 < m) (k : Nat) : sg (p ^ k * m) = gs p k * sg m := sw_pow (fun d => d) hp hm hm0 (fun _ => rfl) k
theorem gs_1 : ∀ k, gs 1 k = k + 1
  | 0 => rfl
  | k + 1 => by rw [gs, gs_1 k]; omega
theorem tau_pow {p m : Nat} (hp : pr p) (hm : ¬ p ∣ m) (hm0 : 0 < m) (k : Nat) : tau (p ^ k * m) = (k + 1) * tau m := by
  have h := sw_pow (fun _ => 1) (c := 1) hp hm hm0 (fun _ => rfl) k
  rw [gs_1] at h
  exact h
/-- the sum of the unitary parts -/
def un (n : Nat) : Nat := fb_sm (fun d => if d ∣ n ∧ Nat.gcd d (n / d) = 1 then d else 0) (n + 1)
theorem un_far {n M : Nat} (hn : 0 < n) (h : n ≤ M) : fb_sm (fun d => if d ∣ n ∧ Nat.gcd d (n / d) = 1 then d else 0) (M + 1) = un n := by
  obtain ⟨k, rfl⟩ := Nat.exists_eq_add_of_le h
  have e : n + k + 1 = (n + 1) + k := by omega
  rw [e, fb_sm_split]
  have hz : fb_sm (fun j => if (n + 1 + j) ∣ n ∧ Nat.gcd (n + 1 + j) (n / (n + 1 + j)) = 1 then (n + 1 + j) else 0) k = fb_sm (fun _ => 0) k := fb_sm_cong (fun j hj => if_neg (fun hd => by have := Nat.le_of_dvd hn hd.1; omega))
  rw [hz, fb_sm_const]
  simp [un]
theorem un_1 : un 1 = 1 := by decide
theorem un_pow {p m k : Nat} (hp : pr p) (hm : ¬ p ∣ m) (hm0 : 0 < m) : un (p ^ (k + 1) * m) = (p ^ (k + 1) + 1) * un m := by
  have hp0 : 0 < p := by have := hp.1; omega
  generalize hq : p ^ (k + 1) = q
  have hq0 : 0 < q := by rw [← hq]; exact Nat.pow_pos hp0
  have hpq : p ∣ q := by rw [← hq, Nat.pow_succ]; exact Nat.dvd_mul_left p _
  have hcop : ∀ d, ¬ p ∣ d → Nat.Coprime d q := fun d h => by rw [← hq]; exact cop_pow hp h (k + 1)
  have hs : ∀ d, (if d ∣ q * m ∧ Nat.gcd d (q * m / d) = 1 then d else 0) = (if q ∣ d then (if d ∣ q * m ∧ Nat.gcd d (q * m / d) = 1 then d else 0) else 0) + (if d ∣ m ∧ Nat.gcd d (m / d) = 1 then d else 0) := by
    intro d
    rcases Nat.eq_zero_or_pos d with hd0 | hd0
    · subst hd0; simp
    by_cases h1 : p ∣ d
    · have hnm : ¬ (d ∣ m ∧ Nat.gcd d (m / d) = 1) := fun h => hm (Nat.dvd_trans h1 h.1)
      rw [if_neg hnm, Nat.add_zero]
      by_cases h2 : q ∣ d
      · rw [if_pos h2]
      · rw [if_neg h2, if_neg]
        intro ⟨h3, h4⟩
        -- p divides d, so p does not divide q m / d; then q divides d
        obtain ⟨t, ht⟩ := h3
        have htd : q * m / d = t := by rw [ht]; exact Nat.mul_div_cancel_left t hd0
        rw [htd] at h4
        have hpt : ¬ p ∣ t := fun h5 => by
          have h6 := Nat.dvd_gcd h1 h5
          rw [h4] at h6
          have := Nat.le_of_dvd (by decide) h6
          have := hp.1
          omega
        have h7 : q ∣ d * t := by rw [← ht]; exact Nat.dvd_mul_right q m
        exact h2 ((hcop t hpt).symm.dvd_of_dvd_mul_right h7)
    · have hnq : ¬ q ∣ d := fun h => h1 (Nat.dvd_trans hpq h)
      rw [if_neg hnq, Nat.zero_add]
      by_cases h2 : d ∣ m
      · obtain ⟨t, rfl⟩ := h2
        have e1 : q * (d * t) / d = q * t := by rw [Nat.mul_left_comm]; exact Nat.mul_div_cancel_left _ hd0
        have e2 : d * t / d = t := Nat.mul_div_cancel_left t hd0
        have e4 := (hcop d h1).symm.gcd_mul_left_cancel_right t
        rw [e1, e2]
        by_cases h3 : Nat.gcd d t = 1
        · rw [if_pos ⟨Nat.dvd_trans (Nat.dvd_mul_right d t) (Nat.dvd_mul_left _ q), e4.trans h3⟩, if_pos ⟨Nat.dvd_mul_right d t, h3⟩]
        · rw [if_neg (fun h => h3 (e4.symm.trans h.2)), if_neg (fun h => h3 h.2)]
      · rw [if_neg (fun h => h2 ((hcop d h1).dvd_of_dvd_mul_left h.1)), if_neg (fun h => h2 h.1)]
  have hL : un (q * m) = fb_sm (fun d => (if q ∣ d then (if d ∣ q * m ∧ Nat.gcd d (q * m / d) = 1 then d else 0) else 0) + (if d ∣ m ∧ Nat.gcd d (m / d) = 1 then d else 0)) (q * m + 1) := fb_sm_cong (fun d _ => hs d)
  rw [hL, fb_sm_add, fs_mult _ hq0, un_far hm0 (Nat.le_mul_of_pos_left m hq0), Nat.add_mul, Nat.one_mul]
  congr 1
  have h5 : fb_sm (fun x => if q * x ∣ q * m ∧ Nat.gcd (q * x) (q * m / (q * x)) = 1 then q * x else 0) (m + 1) = fb_sm (fun x => q * (if x ∣ m ∧ Nat.gcd x (m / x) = 1 then x else 0)) (m + 1) := by
    refine fb_sm_cong (fun x _ => ?_)
    by_cases hx : x ∣ m
    · obtain ⟨t, ht⟩ := hx
      rcases Nat.eq_zero_or_pos x with hx0 | hx0
      · subst hx0; simp at ht; omega
      have e1 : q * m / (q * x) = t := by rw [ht, ← Nat.mul_assoc]; exact Nat.mul_div_cancel_left t (Nat.mul_pos hq0 hx0)
      have e2 : m / x = t := by rw [ht]; exact Nat.mul_div_cancel_left t hx0
      have hpt : ¬ p ∣ t := fun h => hm (by rw [ht]; exact Nat.dvd_trans h (Nat.dvd_mul_left t x))
      have e3 : Nat.gcd (q * x) t = Nat.gcd x t := (hcop t hpt).symm.gcd_mul_left_cancel x
      have hdq : q * x ∣ q * m := Nat.mul_dvd_mul_left q ⟨t, ht⟩
      rw [e1, e2]
      by_cases h3 : Nat.gcd x t = 1
      · rw [if_pos ⟨hdq, e3.trans h3⟩, if_pos ⟨⟨t, ht⟩, h3⟩]
      · rw [if_neg (fun h => h3 (e3.symm.trans h.2)), if_neg (fun h => h3 h.2)]; rfl
    · rw [if_neg (fun h => hx (Nat.dvd_of_mul_dvd_mul_left hq0 h.1)), if_neg (fun h => hx h.1)]; rfl
  rw [h5]
  unfold un
  generalize m + 1 = M
  induction M with
  | zero => rfl
  | succ M ih => rw [fb_sm_succ, fb_sm_succ, ih, Nat.mul_add]
