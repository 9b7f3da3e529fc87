/-! unlike primes, free of squares, a square: by one prime at a time -/
def prB (p : Nat) : Bool := decide (2 ≤ p) && decide (fb_ct (fun d => decide (2 ≤ d ∧ d ∣ p)) p = 0)
theorem prB_iff (p : Nat) : prB p = true ↔ pr p := by
  unfold prB pr
  rw [Bool.and_eq_true, decide_eq_true_eq, decide_eq_true_eq, fb_ct_zero]
  constructor
  · rintro ⟨h1, h2⟩
    refine ⟨h1, fun d hd => ?_⟩
    have hle := Nat.le_of_dvd (by omega) hd
    have hpos := Nat.pos_of_dvd_of_pos hd (by omega)
    rcases Nat.lt_or_ge d p with q | q
    · have := h2 d q
      simp only [decide_eq_false_iff_not] at this
      left
      rcases Nat.lt_or_ge d 2 with w | w
      · omega
      · exact absurd ⟨w, hd⟩ this
    · right; omega
  · rintro ⟨h1, h2⟩
    refine ⟨h1, fun d hd => ?_⟩
    simp only [decide_eq_false_iff_not]
    rintro ⟨w, hd2⟩
    rcases h2 d hd2 with q | q <;> omega
def pdv (n : Nat) : Nat → Bool := fun p => prB p && decide (p ∣ n)
def om (n : Nat) : Nat := fb_ct (pdv n) (n + 1)
theorem pdv_iff (n p : Nat) : pdv n p = true ↔ pr p ∧ p ∣ n := by
  unfold pdv
  rw [Bool.and_eq_true, decide_eq_true_eq, prB_iff]
theorem om_far {n M : Nat} (hn : 0 < n) (h : n + 1 ≤ M) : fb_ct (pdv n) M = om n := by
  obtain ⟨e, rfl⟩ := Nat.exists_eq_add_of_le h
  rw [fb_ct_split]
  have : fb_ct (fun k => pdv n (n + 1 + k)) e = 0 := fb_ct_zero.mpr (fun k _ => by
    have : ¬ pdv n (n + 1 + k) = true := fun q => by
      have := Nat.le_of_dvd hn ((pdv_iff _ _).mp q).2
      omega
    simpa using this)
  rw [this]; rfl
theorem om_mul {n q : Nat} (hn : 0 < n) (hq : pr q) : om (n * q) = om n + if q ∣ n then 0 else 1 := by
  have hq0 : 0 < q := by have := hq.1; omega
  have hnq : n ≤ n * q := Nat.le_mul_of_pos_right n hq0
  have hqn : q ≤ n * q := Nat.le_mul_of_pos_left q hn
  have h1 : om (n * q) = fb_ct (fun k => if k = q then true else pdv n k) (n * q + 1) := by
    unfold om
    refine fb_ct_cong (fun k _ => ?_)
    by_cases c : k = q
    · rw [if_pos c, c]
      exact (pdv_iff _ _).mpr ⟨hq, Nat.dvd_mul_left q n⟩
    · rw [if_neg c]
      by_cases d : pdv n k = true
      · rw [d]
        obtain ⟨a, b⟩ := (pdv_iff _ _).mp d
        exact (pdv_iff _ _).mpr ⟨a, Nat.dvd_trans b (Nat.dvd_mul_right n q)⟩
      · have d' : pdv n k = false := by simpa using d
        rw [d']
        have : ¬ pdv (n * q) k = true := fun w => by
          obtain ⟨a, b⟩ := (pdv_iff _ _).mp w
          rcases pr_mul a b with x | x
          · exact d ((pdv_iff _ _).mpr ⟨a, x⟩)
          · exact c (pr_eq a hq x)
        simpa using this
  have h2 := fb_ct_upd (pdv n) true (i := q) (n := n * q + 1) (by omega)
  rw [← h1, om_far hn (by omega)] at h2
  by_cases c : q ∣ n
  · rw [if_pos c]
    rw [if_pos ((pdv_iff _ _).mpr ⟨hq, c⟩)] at h2
    simp only [if_true] at h2
    omega
  · rw [if_neg c]
    rw [if_neg (fun w => c ((pdv_iff _ _).mp w).2)] at h2
    simp only [if_true] at h2
    omega
theorem om_1 : om 1 = 0 := by decide
def sqf (n : Nat) : Bool := decide (fb_ct (fun d => decide (2 ≤ d ∧ d * d ∣ n)) (n + 1) = 0)
theorem sqf_iff {n : Nat} (hn : 0 < n) : sqf n = true ↔ ∀ d, 2 ≤ d → ¬ d * d ∣ n := by
  unfold sqf
  rw [decide_eq_true_eq, fb_ct_zero]
  constructor
  · intro h d hd hdd
    have h1 := Nat.le_of_dvd hn hdd
    have h2 : d * 1 ≤ d * d := Nat.mul_le_mul_left d (by omega)
    have := h d (by omega)
    simp only [decide_eq_false_iff_not] at this
    exact this ⟨hd, hdd⟩
  · intro h d _
    simp only [decide_eq_false_iff_not]
    exact fun w => h d w.1 w.2
theorem sqf_mul {n q : Nat} (hn : 0 < n) (hq : pr q) : sqf (n * q) = (sqf n && !decide (q ∣ n)) := by
  have hq0 : 0 < q := by have := hq.1; omega
  have hnq : 0 < n * q := Nat.mul_pos hn hq0
  have key : sqf (n * q) = true ↔ (sqf n = true ∧ ¬ q ∣ n) := by
    rw [sqf_iff hnq, sqf_iff hn]
    constructor
    · intro h
      refine ⟨fun d hd w => h d hd (Nat.dvd_trans w (Nat.dvd_mul_right n q)), fun w => h q hq.1 (Nat.mul_dvd_mul_right w q)⟩
    · rintro ⟨h1, h2⟩ d hd w
      obtain ⟨p, hp, hpd, _⟩ := pr_has hd
      have w2 : p * p ∣ n * q := Nat.dvd_trans (Nat.mul_dvd_mul hpd hpd) w
      by_cases c : p = q
      · subst c
        exact h2 (Nat.dvd_of_mul_dvd_mul_right hq0 w2)
      · have hc : Nat.Coprime p q := pr_cop hp (fun x => c (pr_eq hp hq x))
        have : Nat.Coprime (p * p) q := Nat.Coprime.mul_left hc hc
        exact h1 p hp.1 (this.dvd_of_dvd_mul_right w2)
  cases h : sqf (n * q)
  · have : ¬ (sqf n = true ∧ ¬ q ∣ n) := fun w => by rw [key.mpr w] at h; exact absurd h (by decide)
    cases hs : sqf n
    · simp
    · by_cases c : q ∣ n
      · simp [c]
      · exact absurd ⟨hs, c⟩ this
  · obtain ⟨a, b⟩ := key.mp h
    simp [a, b]
theorem sqf_1 : sqf 1 = true := by decide
def sqB (n : Nat) : Bool := decide (0 < fb_ct (fun s => decide (s * s = n)) (n + 1))
theorem sqB_iff (n : Nat) : sqB n = true ↔ ∃ s, s * s = n := by
  unfold sqB
  rw [decide_eq_true_eq, fb_ct_pos]
  constructor
  · rintro ⟨s, _, h⟩
    exact ⟨s, by simpa using h⟩
  · rintro ⟨s, h⟩
    refine ⟨s, ?_, by simpa using h⟩
    rcases Nat.eq_zero_or_pos s with q | q
    · omega
    · have : s * 1 ≤ s * s := Nat.mul_le_mul_left s q
      omega
theorem val_uniq {q : Nat} (hq : pr q) : ∀ a b x y, ¬ q ∣ x → ¬ q ∣ y → q ^ a * x = q ^ b * y → a = b ∧ x = y
  | 0, 0, x, y, _, _, h => ⟨rfl, by simpa using h⟩
  | 0, b + 1, x, y, hx, _, h => by
    exfalso
    apply hx
    rw [Nat.pow_zero, Nat.one_mul, Nat.pow_succ, Nat.mul_comm (q ^ b) q, Nat.mul_assoc] at h
    rw [h]; exact Nat.dvd_mul_right _ _
  | a + 1, 0, x, y, _, hy, h => by
    exfalso
    apply hy
    rw [Nat.pow_zero, Nat.one_mul, Nat.pow_succ, Nat.mul_comm (q ^ a) q, Nat.mul_assoc] at h
    rw [← h]; exact Nat.dvd_mul_right _ _
  | a + 1, b + 1, x, y, hx, hy, h => by
    have hq0 : 0 < q := by have := hq.1; omega
    rw [Nat.pow_succ, Nat.mul_comm (q ^ a) q, Nat.mul_assoc, Nat.pow_succ, Nat.mul_comm (q ^ b) q, Nat.mul_assoc] at h
    obtain ⟨e1, e2⟩ := val_uniq hq a b x y hx hy (Nat.eq_of_mul_eq_mul_left hq0 h)
    exact ⟨by omega, e2⟩
theorem sq_mul {m q k : Nat} (hm : 0 < m) (hq : pr q) (hqm : ¬ q ∣ m) : sqB (m * q ^ k) = (sqB m && decide (k % 2 = 0)) := by
  have hq0 : 0 < q := by have := hq.1; omega
  have key : sqB (m * q ^ k) = true ↔ (sqB m = true ∧ k % 2 = 0) := by
    rw [sqB_iff, sqB_iff]
    constructor
    · rintro ⟨s, hs⟩
      have hs0 : 0 < s := by
        rcases Nat.eq_zero_or_pos s with w | w
        · subst w
          have := Nat.mul_pos hm (Nat.pow_pos (n := k) hq0)
          omega
        · exact w
      obtain ⟨j, r, e, hr, _⟩ := split_pow hq.1 hs0
      have : q ^ k * m = q ^ (2 * j) * (r * r) := by
        rw [Nat.mul_comm, ← hs, e, Nat.two_mul, Nat.pow_add]
        rw [Nat.mul_mul_mul_comm]
      obtain ⟨a, b⟩ := val_uniq hq k (2 * j) m (r * r) hqm (fun w => by rcases pr_mul hq w with x | x <;> exact hr x) this
      exact ⟨⟨r, b.symm⟩, by omega⟩
    · rintro ⟨⟨r, hr⟩, hk⟩
      refine ⟨r * q ^ (k / 2), ?_⟩
      rw [Nat.mul_mul_mul_comm, hr, ← Nat.pow_add, show k / 2 + k / 2 = k by omega]
  cases h : sqB (m * q ^ k)
  · have : ¬ (sqB m = true ∧ k % 2 = 0) := fun w => by rw [key.mpr w] at h; exact absurd h (by decide)
    cases hs : sqB m
    · simp
    · by_cases c : k % 2 = 0
      · exact absurd ⟨hs, c⟩ this
      · simp [c]
  · obtain ⟨a, b⟩ := key.mp h
    simp [a, b]
theorem sqB_1 : sqB 1 = true := by decide
theorem om_pow {m q : Nat} (hm : 0 < m) (hq : pr q) (hqm : ¬ q ∣ m) : ∀ k, om (m * q ^ (k + 1)) = om m + 1 ∧ sqf (m * q ^ (k + 1)) = (sqf m && decide (k = 0))
  | 0 => by
    rw [Nat.zero_add, Nat.pow_one]
    refine ⟨by rw [om_mul hm hq, if_neg hqm], ?_⟩
    rw [sqf_mul hm hq]
    simp [hqm]
  | k + 1 => by
    obtain ⟨h1, h2⟩ := om_pow hm hq hqm k
    have hp : 0 < m * q ^ (k + 1) := Nat.mul_pos hm (Nat.pow_pos (by have := hq.1; omega))
    have hd : q ∣ m * q ^ (k + 1) := by
      rw [Nat.pow_succ, ← Nat.mul_assoc]
      exact Nat.dvd_mul_left _ _
    rw [show m * q ^ (k + 1 + 1) = m * q ^ (k + 1) * q by rw [Nat.pow_succ q (k + 1), ← Nat.mul_assoc]]
    refine ⟨by rw [om_mul hp hq, if_pos hd, h1], ?_⟩
    rw [sqf_mul hp hq]
    simp [hd]
/-- along a factorisation -/
theorem Fac.oms {u : Nat} {P E : Nat → Nat} {n : Nat} (h : Fac u P E n) : ∀ k, k ≤ u → om (prodf (fun i => P i ^ E i) k) = k ∧ 0 < prodf (fun i => P i ^ E i) k ∧ (k < u → sqf (prodf (fun i => P i ^ E i) (k + 1)) = (sqf (prodf (fun i => P i ^ E i) k) && decide (E k = 1)) ∧ sqB (prodf (fun i => P i ^ E i) (k + 1)) = (sqB (prodf (fun i => P i ^ E i) k) && decide (E k % 2 = 0)) ∧ om (prodf (fun i => P i ^ E i) (k + 1)) = k + 1) := by
  intro k
  have hfree : ∀ k, k < u → 0 < prodf (fun i => P i ^ E i) k ∧ ¬ P k ∣ prodf (fun i => P i ^ E i) k := fun k hk => by
    have hF : Fac k P E (prodf (fun i => P i ^ E i) k) := ⟨fun i hi => h.1 i (by omega), fun i j a b => h.2.1 i j a (by omega), rfl⟩
    exact ⟨hF.pos, hF.free (h.1 k hk).1 (fun i hi w => by have := h.2.1 i k hi hk; omega)⟩
  have hst : ∀ k, k < u → om (prodf (fun i => P i ^ E i) k) = k → sqf (prodf (fun i => P i ^ E i) (k + 1)) = (sqf (prodf (fun i => P i ^ E i) k) && decide (E k = 1)) ∧ sqB (prodf (fun i => P i ^ E i) (k + 1)) = (sqB (prodf (fun i => P i ^ E i) k) && decide (E k % 2 = 0)) ∧ om (prodf (fun i => P i ^ E i) (k + 1)) = k + 1 := fun k hk ho => by
    obtain ⟨a, b⟩ := hfree k hk
    obtain ⟨hp, hE⟩ := h.1 k hk
    obtain ⟨e, he⟩ : ∃ e, E k = e + 1 := ⟨E k - 1, by omega⟩
    have hs : prodf (fun i => P i ^ E i) (k + 1) = prodf (fun i => P i ^ E i) k * P k ^ E k := rfl
    obtain ⟨o1, o2⟩ := om_pow a hp b e
    rw [hs]
    refine ⟨?_, sq_mul a hp b, ?_⟩
    · rw [he, o2]
      congr 1
      simp
    · rw [he, o1, ho]
  induction k with
  | zero =>
    intro _
    refine ⟨om_1, Nat.one_pos, fun hk => ?_⟩
    exact hst 0 hk om_1
  | succ k ih =>
    intro hk
    obtain ⟨i1, i2, i3⟩ := ih (by omega)
    obtain ⟨_, _, o⟩ := i3 (by omega)
    have hF : Fac (k + 1) P E (prodf (fun i => P i ^ E i) (k + 1)) := ⟨fun i hi => h.1 i (by omega), fun i j a b => h.2.1 i j a (by omega), rfl⟩
    exact ⟨o, hF.pos, fun hk2 => hst (k + 1) hk2 o⟩
theorem Fac.om {u : Nat} {P E : Nat → Nat} {n : Nat} (h : Fac u P E n) : om n = u := by
  have := (h.oms u (Nat.le_refl u)).1
  rw [h.2.2] at this
  exact this
theorem om_le {n : Nat} (h0 : 0 < n) (hn : n ≤ 5000) : om n ≤ 5 := by
  obtain ⟨u, P, E, hF⟩ := Fac_ex n h0
  rw [hF.om]
  have := hF.fct
  rcases Nat.lt_or_ge 5 u with q | q
  · exfalso
    have hmono : ∀ a b, fctl a ≤ fctl (a + b) := by
      intro a b
      induction b with
      | zero => exact Nat.le_refl _
      | succ b ih =>
        refine Nat.le_trans ih ?_
        show fctl (a + b) ≤ (a + b + 1) * fctl (a + b)
        exact Nat.le_mul_of_pos_left _ (Nat.succ_pos _)
    obtain ⟨e, he⟩ := Nat.exists_eq_add_of_le (show 7 ≤ u + 1 by omega)
    have h7 := hmono 7 e
    rw [← he] at h7
    have : fctl 7 = 5040 := by decide
    omega
  · exact q
/-! made or not -/
def mb (n : Nat) : Nat → Nat → Bool
  | 0, s => decide (s = 0)
  | d + 1, s => mb n d s || (decide (d ∣ n ∧ d ≤ s) && mb n d (s - d))
theorem mb_s (n d s : Nat) : mb n (d + 1) s = (mb n d s || (decide (d ∣ n ∧ d ≤ s) && mb n d (s - d))) := rfl
theorem md_mb {n : Nat} : ∀ d s, d ≤ 5001 → (md 1000000 n d s < 1000000 ↔ mb n d s = true)
  | 0, s, _ => by
    unfold md mb
    by_cases q : s = 0
    · simp [q]
    · simp [q]
  | d + 1, s, h => by
    have i1 := md_mb (n := n) d s (by omega)
    have i2 := md_mb (n := n) d (s - d) (by omega)
    have f2 := md_few 1000000 n d (s - d)
    have c2 := fb_ct_le (dvb n) d
    rw [md_s, mb_s]
    by_cases q : d ∣ n ∧ d ≤ s
    · rw [if_pos q]
      simp only [q, and_self, decide_true, Bool.true_and, Bool.or_eq_true]
      rw [← i1, ← i2]
      constructor
      · intro w
        rcases Nat.lt_or_ge (md 1000000 n d s) 1000000 with x | x
        · exact Or.inl x
        · exact Or.inr (by omega)
      · intro w
        omega
    · rw [if_neg q]
      simp only [q, decide_false, Bool.false_and, Bool.or_false]
      exact i1
theorem mkA_mb {n : Nat} (hn : n ≤ 5000) : (mkA n = -4) ↔ ¬ mb n n n = true := by
  have h := md_mb (n := n) n n (by omega)
  have hl := md_few 1000000 n n n
  have hc := fb_ct_le (dvb n) n
  unfold mkA
  by_cases q : 1000000 ≤ md 1000000 n n n
  · rw [if_pos q]
    exact ⟨fun _ w => by have := h.mpr w; omega, fun _ => rfl⟩
  · rw [if_neg q]
    constructor
    · intro w
      exfalso
      have : (0 : Int32) ≤ nI (md 1000000 n n n) := nI_ge0 (by omega)
      rw [w] at this
      exact absurd this (by decide)
    · intro w
      exact absurd (h.mp (by omega)) w
theorem mb_mono (n s : Nat) {d : Nat} : ∀ e, mb n d s = true → mb n (d + e) s = true
  | 0, h => h
  | e + 1, h => by
    show mb n (d + e + 1) s = true
    rw [mb_s, mb_mono n s e h]; rfl
theorem mb_mul {c m : Nat} (hc : 0 < c) : ∀ d s, mb m d s = true → mb (c * m) (c * d) (c * s) = true
  | 0, s, h => by
    have : s = 0 := by simpa [mb] using h
    subst this
    rw [Nat.mul_zero]; rfl
  | d + 1, s, h => by
    rw [mb_s] at h
    have hst : c * (d + 1) = c * d + 1 + (c - 1) := by rw [Nat.mul_succ]; omega
    by_cases q : mb m d s = true
    · have := mb_mul hc d s q
      rw [Nat.mul_succ]
      exact mb_mono _ _ c this
    · have q' : mb m d s = false := by simpa using q
      rw [q', Bool.false_or, Bool.and_eq_true, decide_eq_true_eq] at h
      have := mb_mul hc d (s - d) h.2
      rw [hst]
      apply mb_mono
      rw [mb_s]
      have e1 : c * d ∣ c * m ∧ c * d ≤ c * s := ⟨Nat.mul_dvd_mul_left c h.1.1, Nat.mul_le_mul_left c h.1.2⟩
      rw [← Nat.mul_sub] at *
      simp [e1, this]
theorem mb_all {n : Nat} : ∀ d, mb n d (sD n d) = true
  | 0 => rfl
  | d + 1 => by
    rw [mb_s, sD_s]
    by_cases q : d ∣ n
    · rw [if_pos q, Nat.add_sub_cancel]
      simp [q, mb_all d, Nat.le_add_left]
    · rw [if_neg q, Nat.add_zero, mb_all d]; rfl
theorem mb_far {n : Nat} (hn : n ≤ 5000) {d s : Nat} (hd : d ≤ 5001) (h : sD n d < s) : mb n d s = false := by
  have := md_far 1000000 n d s h
  have h2 := md_mb (n := n) d s hd
  have : ¬ mb n d s = true := fun w => by have := h2.mpr w; omega
  simpa using this
theorem mb_exact {n : Nat} (h0 : 0 < n) (h : wgh n = 1) : mb n n n = true := by
  have : sg n = 2 * n := by
    unfold wgh at h
    split at h
    · omega
    · split at h
      · assumption
      · omega
  have h1 := mb_all (n := n) n
  rw [sD_n h0, show sg n - n = n by omega] at h1
  exact h1
theorem mb_poor {n : Nat} (h0 : 0 < n) (hn : n ≤ 5000) (h : wgh n = 0) : mb n n n = false := by
  have : sg n < 2 * n := by
    unfold wgh at h
    split at h
    · assumption
    · split at h <;> omega
  have := sg_n h0
  exact mb_far hn (by omega) (by rw [sD_n h0]; omega)
theorem mb_part {n p : Nat} (hp : pr p) (hd : p ∣ n) (h : mb (n / p) (n / p) (n / p) = true) : mb n n n = true := by
  obtain ⟨m, rfl⟩ := hd
  have hp0 : 0 < p := by have := hp.1; omega
  rw [Nat.mul_div_cancel_left _ hp0] at h
  exact mb_mul hp0 m m h
