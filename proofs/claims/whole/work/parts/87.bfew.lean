/-! at most 332 with a great prime once -/
theorem p19_cov : ∀ d, d < 69 → 2 ≤ d → p19z.any (fun p => decide (d % p = 0)) = true := by decide +kernel
theorem p19_two : ∀ p ∈ p19z, 2 ≤ p := by decide +kernel
theorem ckz_pr {q : Nat} (hq : q < 4717) (h : ckz q = true) : pr q := by
  unfold ckz at h
  rw [Bool.and_eq_true, decide_eq_true_eq, List.all_eq_true] at h
  obtain ⟨h2, hall⟩ := h
  refine pr_root h2 (fun d hd2 hdd hdv => ?_)
  have hd : d < 69 := by
    rcases Nat.lt_or_ge d 69 with w | w
    · exact w
    · have := Nat.mul_le_mul w w
      omega
  obtain ⟨p, hp, hpd⟩ := List.any_eq_true.mp (p19_cov d hd hd2)
  have hpd : d % p = 0 := of_decide_eq_true hpd
  have hp2 := p19_two p hp
  have hpq : p ∣ q := Nat.dvd_trans (Nat.dvd_of_mod_eq_zero hpd) hdv
  have hle := Nat.le_of_dvd (by omega) (Nat.dvd_of_mod_eq_zero hpd)
  have h3 := hall p hp
  rw [Bool.or_eq_true, decide_eq_true_eq, decide_eq_true_eq] at h3
  rcases h3 with h3 | h3
  · exact h3 (Nat.mod_eq_zero_of_dvd hpq)
  · have : 2 * d ≤ d * d := Nat.mul_le_mul_right d hd2
    omega
theorem pr_ckz {q : Nat} (h : pr q) : ckz q = true := by
  unfold ckz
  rw [Bool.and_eq_true, decide_eq_true_eq, List.all_eq_true]
  refine ⟨h.1, fun p hp => ?_⟩
  rw [Bool.or_eq_true, decide_eq_true_eq, decide_eq_true_eq]
  by_cases c : q % p = 0
  · right
    have hp2 := p19_two p hp
    rcases h.2 p (Nat.dvd_of_mod_eq_zero c) with e | e
    · omega
    · exact e.symm
  · exact Or.inl c
theorem plz_iff (q : Nat) : q ∈ plz ↔ (q < 4717 ∧ ckz q = true) := by
  rw [plz_eq, List.mem_filter, List.mem_range]
theorem plz_pr : ∀ p ∈ plz, pr p := fun p hp => by
  obtain ⟨a, b⟩ := (plz_iff p).mp hp
  exact ckz_pr a b
theorem plz_up : plz.Pairwise (· < ·) := by
  rw [plz_eq]
  exact List.Pairwise.filter ckz List.pairwise_lt_range
theorem alleX_ok (ex : List Nat) : ∀ d (base : Nat) (c : Nat → Nat), (∀ r, c r < 2 ^ 12) → alleX ex d base (fb_sm (fun r => c r * 2 ^ (12 * r)) (2 ^ d)) = true → ∀ r, r < 2 ^ d → c r ≤ 332 ∨ 500001 ≤ base + r ∨ base + r ∈ ex
  | 0, base, c, _, h, r, hr => by
    have : r = 0 := by
      have : (2 : Nat) ^ 0 = 1 := rfl
      omega
    subst this
    have h : (decide (0 + c 0 * 2 ^ (12 * 0) ≤ 332) || (Nat.ble 500001 base || ex.any (fun e => Nat.beq e base))) = true := h
    rw [Bool.or_eq_true, Bool.or_eq_true] at h
    rcases h with h | h | h
    · left
      have := of_decide_eq_true h
      simpa using this
    · right; left
      exact Nat.le_of_ble_eq_true h
    · right; right
      obtain ⟨e, he, hb⟩ := List.any_eq_true.mp h
      have := Nat.eq_of_beq_eq_true hb
      rw [Nat.add_zero, ← this]
      exact he
  | d + 1, base, c, hc, h, r, hr => by
    have hpk : ∀ (c : Nat → Nat) (n : Nat), (∀ r, c r < 2 ^ 12) → fb_sm (fun r => c r * 2 ^ (12 * r)) n < 2 ^ (12 * n) := by
      intro c n hc
      induction n with
      | zero => exact Nat.one_pos
      | succ n ih =>
        rw [fb_sm_succ]
        have h1 : (c n + 1) * 2 ^ (12 * n) ≤ 2 ^ 12 * 2 ^ (12 * n) := Nat.mul_le_mul_right _ (hc n)
        rw [← Nat.pow_add, show 12 + 12 * n = 12 * (n + 1) by omega, Nat.succ_mul] at h1
        omega
    have e : fb_sm (fun r => c r * 2 ^ (12 * r)) (2 ^ (d + 1)) = fb_sm (fun r => c r * 2 ^ (12 * r)) (2 ^ d) + 2 ^ (12 * 2 ^ d) * fb_sm (fun r => c (2 ^ d + r) * 2 ^ (12 * r)) (2 ^ d) := by
      rw [show 2 ^ (d + 1) = 2 ^ d + 2 ^ d by rw [Nat.pow_succ]; omega, fb_sm_split]
      congr 1
      have : ∀ n, fb_sm (fun k => c (2 ^ d + k) * 2 ^ (12 * (2 ^ d + k))) n = 2 ^ (12 * 2 ^ d) * fb_sm (fun r => c (2 ^ d + r) * 2 ^ (12 * r)) n := by
        intro n
        induction n with
        | zero => rfl
        | succ n ih =>
          rw [fb_sm_succ, fb_sm_succ, ih, Nat.mul_add]
          congr 1
          rw [Nat.mul_add, Nat.pow_add, Nat.mul_left_comm]
      exact this (2 ^ d)
    unfold alleX at h
    have hlo := hpk c (2 ^ d) hc
    rw [e, Nat.add_mul_mod_self_left, Nat.mod_eq_of_lt hlo, Nat.add_mul_div_left _ _ (Nat.pow_pos (by decide)), Nat.div_eq_of_lt hlo, Nat.zero_add, Bool.and_eq_true] at h
    rcases Nat.lt_or_ge r (2 ^ d) with w | w
    · exact alleX_ok ex d base c hc h.1 r w
    · have : c (2 ^ d + (r - 2 ^ d)) ≤ 332 ∨ 500001 ≤ base + 2 ^ d + (r - 2 ^ d) ∨ base + 2 ^ d + (r - 2 ^ d) ∈ ex := alleX_ok ex d (base + 2 ^ d) (fun r => c (2 ^ d + r)) (fun r => hc _) h.2 (r - 2 ^ d) (by rw [Nat.pow_succ] at hr; omega)
      rw [show 2 ^ d + (r - 2 ^ d) = r by omega, show base + 2 ^ d + (r - 2 ^ d) = base + r by omega] at this
      exact this
def cBz (x : Nat) : Nat := indz (RBz x) 1 + goA 4716 (indz (RBz x)) plz 1
theorem indz_le (R : Nat → Bool) (u : Nat) : indz R u ≤ 1 := by
  unfold indz
  split <;> omega
theorem cBz_lt (x : Nat) : cBz x < 2 ^ 12 := by
  have h1 := goA_mono (M := 4716) (Lf := indz (RBz x)) (Lg := fun _ => 1) (fun u => indz_le _ u) plz 1
  have h2 := few_all
  have h3 := indz_le (RBz x) 1
  have h4 : (2 : Nat) ^ 12 = 4096 := by decide
  unfold cBz
  omega
theorem pkz (X : Nat) : rowz X 1 + goA 4716 (rowz X) plz 1 = fb_sm (fun y => cBz (X + y) * 2 ^ (12 * y)) 32768 := by
  have e1 : rowz X = fun t => fb_sm (fun y => indz (RBz (X + y)) t * 2 ^ (12 * y)) 32768 := funext (fun t => rowz_eq X t)
  have e2 : goA 4716 (rowz X) plz 1 = fb_sm (fun y => goA 4716 (indz (RBz (X + y))) plz 1 * 2 ^ (12 * y)) 32768 := by
    rw [e1, goA_sum (fun y t => indz (RBz (X + y)) t * 2 ^ (12 * y)) plz 1 32768]
    exact fb_sm_cong (fun y _ => goA_mul (indz (RBz (X + y))) (2 ^ (12 * y)) plz 1)
  rw [e2, rowz_eq X 1, ← fb_sm_add]
  refine fb_sm_cong (fun y _ => ?_)
  unfold cBz
  rw [Nat.add_mul]
theorem blk_all {b : Nat} (hb : b < 16) : alleX excz 15 (32768 * b) (rowz (32768 * b) 1 + goA 4716 (rowz (32768 * b)) plz 1) = true := by
  have h : b = 0 ∨ b = 1 ∨ b = 2 ∨ b = 3 ∨ b = 4 ∨ b = 5 ∨ b = 6 ∨ b = 7 ∨ b = 8 ∨ b = 9 ∨ b = 10 ∨ b = 11 ∨ b = 12 ∨ b = 13 ∨ b = 14 ∨ b = 15 := by omega
  rcases h with h | h | h | h | h | h | h | h | h | h | h | h | h | h | h | h
  · rw [h]; exact blk_0
  · rw [h]; exact blk_1
  · rw [h]; exact blk_2
  · rw [h]; exact blk_3
  · rw [h]; exact blk_4
  · rw [h]; exact blk_5
  · rw [h]; exact blk_6
  · rw [h]; exact blk_7
  · rw [h]; exact blk_8
  · rw [h]; exact blk_9
  · rw [h]; exact blk_10
  · rw [h]; exact blk_11
  · rw [h]; exact blk_12
  · rw [h]; exact blk_13
  · rw [h]; exact blk_14
  · rw [h]; exact blk_15
theorem cBz_few {x : Nat} (hx : x ≤ 500000) : cBz x ≤ 332 ∨ x ∈ excz := by
  have hd := Nat.div_add_mod x 32768
  have hm := Nat.mod_lt x (show 32768 > 0 by decide)
  have hb : x / 32768 < 16 := by omega
  have h := blk_all hb
  rw [pkz] at h
  have h15 : (2 : Nat) ^ 15 = 32768 := by decide
  rw [← h15] at h hm
  have h2 : cBz (2 ^ 15 * (x / 2 ^ 15) + x % 2 ^ 15) ≤ 332 ∨ 500001 ≤ 2 ^ 15 * (x / 2 ^ 15) + x % 2 ^ 15 ∨ 2 ^ 15 * (x / 2 ^ 15) + x % 2 ^ 15 ∈ excz := alleX_ok excz 15 (2 ^ 15 * (x / 2 ^ 15)) (fun y => cBz (2 ^ 15 * (x / 2 ^ 15) + y)) (fun y => cBz_lt _) h (x % 2 ^ 15) hm
  rw [Nat.div_add_mod x (2 ^ 15)] at h2
  rcases h2 with h2 | h2 | h2
  · exact Or.inl h2
  · omega
  · exact Or.inr h2
theorem exk_ok : ∀ x ∈ excz, indz (RGz x) 1 + goA 4716 (indz (RGz x)) plz 1 ≤ 332 := by
  have hk : ∀ a n, exk a n = true → ∀ x ∈ (excz.drop a).take n, indz (RGz x) 1 + goA 4716 (indz (RGz x)) plz 1 ≤ 332 := by
    intro a n h x hx
    unfold exk at h
    have := List.all_eq_true.mp h x hx
    exact of_decide_eq_true this
  have e : excz = (excz.drop 0).take 17 ++ ((excz.drop 17).take 17 ++ ((excz.drop 34).take 17 ++ ((excz.drop 51).take 17 ++ (excz.drop 68).take 17))) := by decide +kernel
  intro x hx
  rw [e, List.mem_append, List.mem_append, List.mem_append, List.mem_append] at hx
  rcases hx with hx | hx | hx | hx | hx
  · exact hk 0 17 exk_0 x hx
  · exact hk 17 17 exk_1 x hx
  · exact hk 34 17 exk_2 x hx
  · exact hk 51 17 exk_3 x hx
  · exact hk 68 17 exk_4 x hx
theorem B_few {x : Nat} (hx : x ≤ 500000) : fb_ct (smP plz 1 (RGz x)) (4716 + 1) ≤ 332 := by
  have hB : ∀ u, RBz x u = true → u ≤ 4716 := fun u hu => by
    have := (RBz_iff.mp hu).2.2
    omega
  have hG : ∀ u, RGz x u = true → RBz x u = true := fun u hu => by
    unfold RGz at hu
    rw [Bool.and_eq_true] at hu
    exact hu.1
  by_cases c : x ∈ excz
  · exact Nat.le_trans (goA_all (M := 4716) (R := RGz x) (by decide) (fun u hu => hB u (hG u hu)) plz plz_pr plz_up 1 (Nat.le_refl 1)) (exk_ok x c)
  · have h1 := goA_all (M := 4716) (R := RBz x) (by decide) hB plz plz_pr plz_up 1 (Nat.le_refl 1)
    have h2 : fb_ct (smP plz 1 (RGz x)) (4716 + 1) ≤ fb_ct (smP plz 1 (RBz x)) (4716 + 1) := fb_ct_sub (fun k _ hk => by
      obtain ⟨a, b, d⟩ := smP_iff.mp hk
      exact smP_iff.mpr ⟨a, b, hG _ d⟩)
    rcases cBz_few hx with h3 | h3
    · unfold cBz at h3
      exact Nat.le_trans h2 (Nat.le_trans h1 h3)
    · exact absurd h3 c
