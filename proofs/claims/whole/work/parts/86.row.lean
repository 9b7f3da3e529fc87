/-! rows of multiples, packed: 32768 places of 12 bits -/
theorem RBz_iff {x u : Nat} : RBz x u = true ↔ (1 ≤ u ∧ u ∣ x ∧ 106 * u ≤ x) := by
  unfold RBz
  rw [Bool.and_eq_true, Bool.and_eq_true, decide_eq_true_eq, decide_eq_true_eq, decide_eq_true_eq, Nat.dvd_iff_mod_eq_zero]
theorem geo_sum {t D : Nat} (hD : 2 ^ (12 * t) = D + 1) : ∀ n, fb_sm (fun e => 2 ^ (12 * (t * e))) n * D + 1 = 2 ^ (12 * t * n)
  | 0 => by
    show 0 * D + 1 = 2 ^ (12 * t * 0)
    simp
  | n + 1 => by
    have h := geo_sum hD n
    have e1 : 2 ^ (12 * t * (n + 1)) = 2 ^ (12 * t * n) * (D + 1) := by rw [Nat.mul_add, Nat.mul_one, Nat.pow_add, hD]
    have e2 : 12 * (t * n) = 12 * t * n := by rw [Nat.mul_assoc]
    rw [fb_sm_succ, Nat.add_mul, e2, e1, Nat.mul_add, Nat.mul_one]
    omega
theorem geo_div {t : Nat} (ht : 0 < t) (n : Nat) : (2 ^ (12 * t * n) - 1) / (2 ^ (12 * t) - 1) = fb_sm (fun e => 2 ^ (12 * (t * e))) n := by
  have h2 : 2 ^ 1 ≤ 2 ^ (12 * t) := Nat.pow_le_pow_right (by decide) (by omega)
  have h3 : (2 : Nat) ^ 1 = 2 := rfl
  obtain ⟨D, hD⟩ : ∃ D, 2 ^ (12 * t) = D + 1 := ⟨2 ^ (12 * t) - 1, by omega⟩
  have h := geo_sum hD n
  rw [← h, hD, Nat.add_sub_cancel, Nat.add_sub_cancel]
  exact Nat.mul_div_cancel _ (by omega)
theorem sm_zero {f : Nat → Nat} {n : Nat} (h : ∀ k, k < n → f k = 0) : fb_sm f n = 0 := by
  have e : fb_sm f n = fb_sm (fun _ => 0) n := fb_sm_cong h
  rw [e, fb_sm_const, Nat.mul_zero]
theorem sm_mulL (c : Nat) (f : Nat → Nat) : ∀ n, fb_sm (fun k => c * f k) n = c * fb_sm f n
  | 0 => rfl
  | n + 1 => by rw [fb_sm_succ, fb_sm_succ, sm_mulL c f n, Nat.mul_add]
/-- multiples below a bound -/
theorem mult_row {t : Nat} (ht : 0 < t) (g : Nat → Nat) {L : Nat} (hL : 0 < L) : fb_sm (fun y => if t ∣ y then g y else 0) L = fb_sm (fun e => g (t * e)) ((L - 1) / t + 1) := by
  have hd := Nat.div_add_mod (L - 1) t
  have hm := Nat.mod_lt (L - 1) ht
  have e : L = (t * ((L - 1) / t) + 1) + (L - 1) % t := by omega
  have h1 := fs_mult g ht ((L - 1) / t)
  have h2 := fb_sm_split (fun y => if t ∣ y then g y else 0) (t * ((L - 1) / t) + 1) ((L - 1) % t)
  have h3 : fb_sm (fun k => (fun y => if t ∣ y then g y else 0) (t * ((L - 1) / t) + 1 + k)) ((L - 1) % t) = 0 := by
    refine sm_zero (fun k hk => ?_)
    refine if_neg (fun w => ?_)
    rw [Nat.add_assoc] at w
    have w2 := (Nat.dvd_add_right (Nat.dvd_mul_right t ((L - 1) / t))).mp w
    have := Nat.le_of_dvd (by omega) w2
    omega
  rw [h3, Nat.add_zero, h1, ← e] at h2
  exact h2
theorem rowG_0 (n o : Nat) : rowG 0 n o = 0 := by
  unfold rowG
  simp
theorem rowz_0 (X : Nat) : rowz X 0 = 0 := by
  unfold rowz rowA rowF
  rw [rowG_0, ite_self]
theorem rowz_eq (X t : Nat) : rowz X t = fb_sm (fun y => indz (RBz (X + y)) t * 2 ^ (12 * y)) 32768 := by
  rcases Nat.eq_zero_or_pos t with t0 | ht
  · subst t0
    have h2 : fb_sm (fun y => indz (RBz (X + y)) 0 * 2 ^ (12 * y)) 32768 = 0 := sm_zero (fun k _ => by
      have : ¬ RBz (X + k) 0 = true := fun w => by
        have := (RBz_iff.mp w).1
        omega
      unfold indz
      rw [if_neg this, Nat.zero_mul])
    rw [h2, rowz_0]
  · unfold rowz rowA
    generalize ha : (if X ≤ 106 * t then 106 * t else X) = a
    have ha1 : X ≤ a ∧ 106 * t ≤ a := by
      rw [← ha]
      split <;> omega
    have ha2 : a = X ∨ a = 106 * t := by
      rw [← ha]
      split
      · exact Or.inr rfl
      · exact Or.inl rfl
    generalize hf : (a + (t - 1)) / t * t = f
    have hft : t ∣ f := by rw [← hf]; exact Nat.dvd_mul_left t _
    have hd := Nat.div_add_mod (a + (t - 1)) t
    have hm := Nat.mod_lt (a + (t - 1)) ht
    rw [Nat.mul_comm t, hf] at hd
    have hf1 : a ≤ f := by omega
    have hf2 : f < a + t := by omega
    have none_lt : ∀ x, X ≤ x → x < f → ¬ RBz x t = true := by
      intro x hx h w
      obtain ⟨_, w2, w3⟩ := RBz_iff.mp w
      have h1 : a ≤ x := by omega
      have h2 := Nat.le_of_dvd (by omega) (Nat.dvd_sub hft w2)
      omega
    unfold rowF
    by_cases c : X + 32768 ≤ f
    · rw [if_pos c]
      refine (sm_zero (fun k hk => ?_)).symm
      unfold indz
      rw [if_neg (none_lt (X + k) (by omega) (by omega)), Nat.zero_mul]
    · rw [if_neg c]
      have e : 32768 = (f - X) + (X + 32768 - f) := by omega
      have h2 := fb_sm_split (fun y => indz (RBz (X + y)) t * 2 ^ (12 * y)) (f - X) (X + 32768 - f)
      rw [← e] at h2
      have h3 : fb_sm (fun y => indz (RBz (X + y)) t * 2 ^ (12 * y)) (f - X) = 0 := sm_zero (fun k hk => by
        unfold indz
        rw [if_neg (none_lt (X + k) (by omega) (by omega)), Nat.zero_mul])
      have e2 : fb_sm (fun k => (fun y => indz (RBz (X + y)) t * 2 ^ (12 * y)) (f - X + k)) (X + 32768 - f) = fb_sm (fun k => 2 ^ (12 * (f - X)) * (if t ∣ k then 2 ^ (12 * k) else 0)) (X + 32768 - f) := by
        refine fb_sm_cong (fun k hk => ?_)
        have e3 : X + (f - X + k) = f + k := by omega
        show indz (RBz (X + (f - X + k))) t * 2 ^ (12 * (f - X + k)) = _
        rw [e3]
        unfold indz
        by_cases w : t ∣ k
        · rw [if_pos (RBz_iff.mpr ⟨ht, (Nat.dvd_add_right hft).mpr w, by omega⟩), if_pos w, Nat.one_mul, Nat.mul_add, Nat.pow_add]
        · rw [if_neg (fun v => w ((Nat.dvd_add_right hft).mp (RBz_iff.mp v).2.1)), if_neg w, Nat.zero_mul, Nat.mul_zero]
      have e4 : fb_sm (fun k => if t ∣ k then 2 ^ (12 * k) else 0) (X + 32768 - f) = fb_sm (fun e => 2 ^ (12 * (t * e))) ((X + 32767 - f) / t + 1) := by
        have h := mult_row ht (fun k => 2 ^ (12 * k)) (show 0 < X + 32768 - f by omega)
        rw [show X + 32768 - f - 1 = X + 32767 - f by omega] at h
        exact h
      rw [h2, h3, Nat.zero_add, e2, sm_mulL, e4]
      unfold rowG
      rw [geo_div ht]
