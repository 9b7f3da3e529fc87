/-! bounds of the sums -/
theorem gs_le {p : Nat} (hp : 2 ≤ p) : ∀ k, gs p k + 1 ≤ 2 * p ^ k
  | 0 => by simp [gs]
  | k + 1 => by
    have h := gs_le hp k
    have h2 : p * (gs p k + 1) ≤ p * (2 * p ^ k) := Nat.mul_le_mul_left p h
    rw [Nat.mul_add, Nat.mul_one] at h2
    show p * gs p k + 1 + 1 ≤ 2 * p ^ (k + 1)
    rw [Nat.pow_succ, Nat.mul_comm (p ^ k) p, ← Nat.mul_assoc, Nat.mul_comm 2 p, Nat.mul_assoc]
    omega
theorem prodf_le {f g : Nat → Nat} : ∀ {u : Nat}, (∀ i, i < u → f i ≤ g i) → prodf f u ≤ prodf g u
  | 0, _ => Nat.le_refl 1
  | u + 1, h => by rw [prodf, prodf]; exact Nat.mul_le_mul (prodf_le (fun i hi => h i (by omega))) (h u (by omega))
theorem prodf_2 {f : Nat → Nat} : ∀ {u : Nat}, prodf (fun i => 2 * f i) u = 2 ^ u * prodf f u
  | 0 => rfl
  | u + 1 => by
    rw [prodf, prodf, prodf_2 (u := u), Nat.pow_succ]
    rw [Nat.mul_assoc, Nat.mul_assoc, Nat.mul_left_comm (prodf f u) 2]
theorem prodf_front (f : Nat → Nat) : ∀ u, prodf f (u + 1) = f 0 * prodf (fun i => f (i + 1)) u
  | 0 => by simp [prodf]
  | u + 1 => by rw [prodf, prodf_front f u, prodf, Nat.mul_assoc]
theorem Fac.dvd {u : Nat} {P E : Nat → Nat} {n : Nat} (h : Fac u P E n) : ∀ i, i < u → P i ∣ n := by
  induction u generalizing n with
  | zero => intro i hi; omega
  | succ u ih =>
    intro i hi
    rw [← h.2.2, prodf]
    rcases Nat.eq_or_lt_of_le (Nat.le_of_lt_succ hi) with r | r
    · subst r
      obtain ⟨k, hk⟩ : ∃ k, E i = k + 1 := ⟨E i - 1, by have := (h.1 i (by omega)).2; omega⟩
      rw [hk, Nat.pow_succ]
      exact Nat.dvd_trans (Nat.dvd_mul_left (P i) _) (Nat.dvd_mul_left _ _)
    · exact Nat.dvd_trans (ih h.down i r) (Nat.dvd_mul_right _ _)
theorem Fac_ex (n : Nat) (hn : 0 < n) : ∃ u P E, Fac u P E n := by
  induction n using Nat.strongRecOn with
  | _ n ih =>
    rcases Nat.lt_or_ge n 2 with h | h
    · have : n = 1 := by omega
      subst this
      exact ⟨0, fun _ => 0, fun _ => 0, fun i hi => by omega, fun i j _ hj => by omega, rfl⟩
    obtain ⟨p, hp, hpd, hmin⟩ := pr_has h
    obtain ⟨k, m, e, hpm, hm0⟩ := split_pow hp.1 hn
    have hk : 1 ≤ k := by
      rcases Nat.eq_zero_or_pos k with r | r
      · subst r; rw [Nat.pow_zero, Nat.one_mul] at e; subst e; exact absurd hpd hpm
      · exact r
    have hlt : m < n := by
      have h1 : 2 ≤ p ^ k := Nat.le_trans hp.1 (by
        calc p = p ^ 1 := (Nat.pow_one p).symm
          _ ≤ p ^ k := Nat.pow_le_pow_right (by have := hp.1; omega) hk)
      have h2 : 2 * m ≤ p ^ k * m := Nat.mul_le_mul_right m h1
      omega
    obtain ⟨u, P, E, hF⟩ := ih m hlt hm0
    refine ⟨u + 1, fun i => if i = 0 then p else P (i - 1), fun i => if i = 0 then k else E (i - 1), fun i hi => ?_, fun i j hij hj => ?_, ?_⟩
    · by_cases e0 : i = 0
      · simp only [if_pos e0]; exact ⟨hp, hk⟩
      · simp only [if_neg e0]; exact hF.1 (i - 1) (by omega)
    · have ej : j ≠ 0 := by omega
      by_cases e0 : i = 0
      · simp only [if_pos e0, if_neg ej]
        have hd := hF.dvd (j - 1) (by omega)
        have h1 := hmin (P (j - 1)) (hF.1 (j - 1) (by omega)).1.1 (by rw [e]; exact Nat.dvd_trans hd (Nat.dvd_mul_left m _))
        have h2 : P (j - 1) ≠ p := fun q => hpm (by rw [← q]; exact hd)
        omega
      · simp only [if_neg e0, if_neg ej]; exact hF.2.1 (i - 1) (j - 1) (by omega) (by omega)
    · rw [prodf_front, e]
      have e2 : prodf (fun i => (fun i => if i = 0 then p else P (i - 1)) (i + 1) ^ (fun i => if i = 0 then k else E (i - 1)) (i + 1)) u = m := by
        rw [← hF.2.2]
        exact prodf_cong (fun i _ => by simp)
      rw [e2]
      simp
theorem sg_le {n : Nat} (hn : 0 < n) (hb : n ≤ 10000000000) : sg n ≤ 4096 * n := by
  obtain ⟨u, P, E, hF⟩ := Fac_ex n hn
  have hu := hF.few hb
  have h1 : sg n ≤ 2 ^ u * n := by
    rw [hF.sg]
    conv => rhs; rw [← hF.2.2]
    rw [← prodf_2]
    exact prodf_le (fun i hi => by have := gs_le (hF.1 i hi).1.1 (E i); omega)
  have h2 : 2 ^ u ≤ 2 ^ 12 := Nat.pow_le_pow_right (by decide) hu
  have h3 : 2 ^ u * n ≤ 2 ^ 12 * n := Nat.mul_le_mul_right n h2
  have : (2 : Nat) ^ 12 = 4096 := by decide
  omega
theorem un_le {n : Nat} (hn : 0 < n) (hb : n ≤ 10000000000) : un n ≤ 4096 * n := by
  obtain ⟨u, P, E, hF⟩ := Fac_ex n hn
  have hu := hF.few hb
  have h1 : un n ≤ 2 ^ u * n := by
    rw [hF.un]
    conv => rhs; rw [← hF.2.2]
    rw [← prodf_2]
    exact prodf_le (fun i hi => by have : 0 < P i ^ E i := Nat.pow_pos (by have := (hF.1 i hi).1.1; omega); omega)
  have h2 : 2 ^ u ≤ 2 ^ 12 := Nat.pow_le_pow_right (by decide) hu
  have h3 : 2 ^ u * n ≤ 2 ^ 12 * n := Nat.mul_le_mul_right n h2
  have : (2 : Nat) ^ 12 = 4096 := by decide
  omega
theorem sg_ge {n : Nat} (hn : 0 < n) : n + (if n = 1 then 0 else 1) ≤ sg n := by
  have h := fb_sm_part (fun d => if d ∣ n then d else 0) (show n < n + 1 by omega)
  rw [if_pos (Nat.dvd_refl n)] at h
  show n + (if n = 1 then 0 else 1) ≤ fb_sm (fun d => if d ∣ n then d else 0) (n + 1)
  by_cases h1 : n = 1
  · rw [if_pos h1]; omega
  · rw [if_neg h1]
    have h2 := fb_sm_part (fun d => if d ∣ n then d else 0) (show 1 < n by omega)
    rw [if_pos (Nat.one_dvd n)] at h2
    omega
theorem un_ge {n : Nat} (hn : 0 < n) : n ≤ un n := by
  have h := fb_sm_part (fun d => if d ∣ n ∧ Nat.gcd d (n / d) = 1 then d else 0) (show n < n + 1 by omega)
  have e : n ∣ n ∧ Nat.gcd n (n / n) = 1 := ⟨Nat.dvd_refl n, by rw [Nat.div_self hn]; exact Nat.gcd_one_right n⟩
  rw [if_pos e] at h
  unfold un
  omega
/-! Euclid on both sides -/
theorem gcd_step (x y : Nat) : Nat.gcd x y = Nat.gcd y (x % y) := by
  rw [Nat.gcd_comm x y, Nat.gcd_rec y x, Nat.gcd_comm]
theorem mod_half {x y : Nat} (hy : 0 < y) (h : y ≤ x) : 2 * (x % y) < x := by
  have h1 := Nat.mod_lt x hy
  have h2 := Nat.div_add_mod x y
  have h3 : 1 ≤ x / y := Nat.div_pos h hy
  have h4 : y ≤ y * (x / y) := Nat.le_mul_of_pos_right y h3
  omega
theorem common_l (N : Nat) : ∀ (y n x : Nat), x < 2 ^ 63 → y < 2 ^ 63 → y < n → l_X12_common_6 N n (lN x, lN y) = some (lN (Nat.gcd x y)) := by
  intro y
  induction y using Nat.strongRecOn with
  | _ y ih =>
    intro n x hx hy hn
    obtain ⟨n, rfl⟩ : ∃ z, n = z + 1 := ⟨n - 1, by omega⟩
    show s_X12_common_6 N (l_X12_common_6 N n) (lN x) (lN y) = _
    unfold s_X12_common_6
    rcases Nat.eq_zero_or_pos y with h | h
    · subst h
      rw [if_pos (show lN 0 = (0 : Int64) from rfl), Nat.gcd_zero_right]
    · rw [if_neg (M_ne y 0 (by omega) hy (by decide)), if_neg (M_ne y 0 (by omega) hy (by decide))]
      simp only [xl]
      rw [pk_lRem hx h hy, gcd_step]
      have := Nat.mod_lt x h
      exact ih (x % y) this n y hy (by omega) (by omega)
theorem commonPart_l (N : Nat) : ∀ (j n x y i : Nat), x < 2 ^ 63 → y < 2 ^ 63 → y < 2 ^ j → i + 2 * j < 200 → 2 * j + 1 < n → l_X11_commonPart_9 N n (lN x, lN y, nI i) = some (lN (Nat.gcd x y)) := by
  intro j
  induction j with
  | zero =>
    intro n x y i hx hy hj hi hn
    obtain ⟨n, rfl⟩ : ∃ z, n = z + 1 := ⟨n - 1, by omega⟩
    have : y = 0 := by simp at hj; exact hj
    subst this
    show s_X11_commonPart_9 N (l_X11_commonPart_9 N n) (lN x) (lN 0) (nI i) = _
    unfold s_X11_commonPart_9
    rw [if_neg (L_nle 200 i (by omega) (by decide)), if_pos (show lN 0 = (0 : Int64) from rfl), Nat.gcd_zero_right]
  | succ j ih =>
    intro n x y i hx hy hj hi hn
    obtain ⟨n, rfl⟩ : ∃ z, n = z + 2 := ⟨n - 2, by omega⟩
    show s_X11_commonPart_9 N (l_X11_commonPart_9 N (n + 1)) (lN x) (lN y) (nI i) = _
    unfold s_X11_commonPart_9
    rw [if_neg (L_nle 200 i (by omega) (by decide))]
    rcases Nat.eq_zero_or_pos y with h | h
    · subst h
      rw [if_pos (show lN 0 = (0 : Int64) from rfl), Nat.gcd_zero_right]
    · rw [if_neg (M_ne y 0 (by omega) hy (by decide)), if_neg (M_ne y 0 (by omega) hy (by decide))]
      simp only [xl]
      rw [pk_lRem hx h hy, gcd_step, show nI i + (1 : Int32) = nI (i + 1) from nI_1 i]
      have hr := Nat.mod_lt x h
      generalize x % y = r at *
      show s_X11_commonPart_9 N (l_X11_commonPart_9 N n) (lN y) (lN r) (nI (i + 1)) = _
      unfold s_X11_commonPart_9
      rw [if_neg (L_nle 200 (i + 1) (by omega) (by decide))]
      rcases Nat.eq_zero_or_pos r with h2 | h2
      · subst h2
        rw [if_pos (show lN 0 = (0 : Int64) from rfl), Nat.gcd_zero_right]
      · rw [if_neg (M_ne r 0 (by omega) (by omega) (by decide)), if_neg (M_ne r 0 (by omega) (by omega) (by decide))]
        simp only [xl]
        rw [pk_lRem hy h2 (by omega), gcd_step, show nI (i + 1) + (1 : Int32) = nI (i + 1 + 1) from nI_1 _]
        have hh := mod_half h2 (Nat.le_of_lt hr)
        have hp : (2 : Nat) ^ (j + 1) = 2 * 2 ^ j := by rw [Nat.pow_succ, Nat.mul_comm]
        exact ih n r (y % r) (i + 1 + 1) (by omega) (by omega) (by omega) (by omega) (by omega)
theorem commonPart_f (N : Nat) (hN : 200 ≤ N) {x y : Nat} (hx : x < 2 ^ 63) (hy : y ≤ 10000000000) : f_X11_commonPart N (lN x) (lN y) = some (lN (Nat.gcd x y)) := by
  unfold f_X11_commonPart
  exact commonPart_l N 34 N x y 0 hx (by omega) (Nat.lt_of_le_of_lt hy (by decide)) (by decide) (by omega)
theorem common_f (N : Nat) (hN : 2 ^ 40 ≤ N) {x y : Nat} (hx : x < 2 ^ 63) (hy : y ≤ 10000000000) : f_X12_common N (lN x) (lN y) = some (lN (Nat.gcd x y)) := by
  have h40 : (2 : Nat) ^ 40 = 1099511627776 := by decide
  unfold f_X12_common
  exact common_l N y N x hx (by omega) (by omega)
