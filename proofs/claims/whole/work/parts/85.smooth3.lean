/-! no number is left out -/
def smB (ps : List Nat) (n : Nat) : Bool := decide (fb_ct (fun q => prB q && decide (q ∣ n) && !decide (q ∈ ps)) (n + 1) = 0)
theorem smB_iff {ps : List Nat} {n : Nat} (hn : 0 < n) : smB ps n = true ↔ ∀ q, pr q → q ∣ n → q ∈ ps := by
  unfold smB
  rw [decide_eq_true_eq, fb_ct_zero]
  constructor
  · intro h q hq hd
    have h1 := h q (by have := Nat.le_of_dvd hn hd; omega)
    rw [(prB_iff q).mpr hq] at h1
    simp only [hd, decide_true, Bool.true_and, Bool.not_eq_false', decide_eq_true_eq] at h1
    exact h1
  · intro h q _
    cases hp : prB q
    · rfl
    · by_cases hd : q ∣ n
      · have := h q ((prB_iff q).mp hp) hd
        simp [this]
      · simp [hd]
def smP (ps : List Nat) (t : Nat) (R : Nat → Bool) : Nat → Bool := fun n => decide (1 ≤ n) && (smB ps n && R (t * sg n))
theorem smP_iff {ps : List Nat} {t : Nat} {R : Nat → Bool} {n : Nat} : smP ps t R n = true ↔ (1 ≤ n ∧ (∀ q, pr q → q ∣ n → q ∈ ps) ∧ R (t * sg n) = true) := by
  unfold smP
  rw [Bool.and_eq_true, Bool.and_eq_true, decide_eq_true_eq]
  constructor
  · rintro ⟨a, b, c⟩; exact ⟨a, (smB_iff a).mp b, c⟩
  · rintro ⟨a, b, c⟩; exact ⟨a, (smB_iff a).mpr b, c⟩
theorem ct_one {P : Nat → Bool} {M : Nat} (h : ∀ x, x < M → P x = true → x = 1) : fb_ct P M ≤ 1 := by
  have := ct_inj (P := P) (Q := fun _ => true) (M := M) (L := 1) (fun _ => 0) (fun _ _ _ => ⟨by decide, rfl⟩) (fun x y hx hy h1 h2 _ => by rw [h x hx h1, h y hy h2])
  have h2 := fb_ct_le (fun _ : Nat => true) 1
  omega
/-- where only 1 can be -/
theorem ct_one' {ps : List Nat} {t M : Nat} {R : Nat → Bool} (h : ∀ n, smP ps t R n = true → n = 1) : fb_ct (smP ps t R) (M + 1) ≤ indz R t := by
  unfold indz
  by_cases c : R t = true
  · rw [if_pos c]
    exact ct_one (fun x _ hx => h x hx)
  · rw [if_neg c]
    refine Nat.le_of_eq (fb_ct_zero.mpr (fun k _ => ?_))
    have : ¬ smP ps t R k = true := fun w => by
      have e := h k w
      subst e
      have := (smP_iff.mp w).2.2
      rw [sg_1, Nat.mul_one] at this
      exact c this
    simpa using this
theorem goA_all {M : Nat} {R : Nat → Bool} (hM : M ≤ 1000000) (hR : ∀ u, R u = true → u ≤ M) : ∀ (ps : List Nat), (∀ p ∈ ps, pr p) → ps.Pairwise (· < ·) → ∀ t, 1 ≤ t → fb_ct (smP ps t R) (M + 1) ≤ indz R t + goA M (indz R) ps t := by
  intro ps
  induction ps with
  | nil =>
    intro _ _ t ht
    refine Nat.le_trans (ct_one' (fun n h => ?_)) (Nat.le_add_right _ _)
    obtain ⟨h1, h2, h3⟩ := smP_iff.mp h
    rcases Nat.eq_or_lt_of_le h1 with q | q
    · exact q.symm
    · obtain ⟨p, hp, hd, _⟩ := pr_has q
      exact absurd (h2 p hp hd) (by simp)
  | cons p ps ih =>
    intro hps hpw t ht
    have hp : pr p := hps p (by simp)
    have hp2 := hp.1
    have hps' : ∀ q ∈ ps, pr q := fun q hq => hps q (by simp [hq])
    have hlt : ∀ q ∈ ps, p < q := (List.pairwise_cons.mp hpw).1
    have hpw' := (List.pairwise_cons.mp hpw).2
    have ih := ih hps' hpw'
    unfold goA
    by_cases c : M < t * (p + 1)
    · rw [if_pos c, Nat.add_zero]
      refine ct_one' (fun n h => ?_)
      obtain ⟨h1, h2, h3⟩ := smP_iff.mp h
      have h3 := hR _ h3
      rcases Nat.eq_or_lt_of_le h1 with q | q
      · exact q.symm
      · exfalso
        obtain ⟨w, hw, hd, _⟩ := pr_has q
        have hwp : p ≤ w := by
          rcases List.mem_cons.mp (h2 w hw hd) with e | e
          · omega
          · exact Nat.le_of_lt (hlt w e)
        have hwn := Nat.le_of_dvd h1 hd
        have hs := sg_ge h1
        rw [if_neg (show ¬ n = 1 by omega)] at hs
        have : t * (p + 1) ≤ t * sg n := Nat.mul_le_mul_left t (by omega)
        omega
    · rw [if_neg c]
      -- by how often p goes in
      have hsk : ∀ n, ∃ kz : Nat × Nat, 1 ≤ n → n = p ^ kz.1 * kz.2 ∧ ¬ p ∣ kz.2 ∧ 0 < kz.2 := by
        intro n
        by_cases c : 1 ≤ n
        · obtain ⟨k, z, a, b, d⟩ := split_pow hp2 c
          exact ⟨(k, z), fun _ => ⟨a, b, d⟩⟩
        · exact ⟨(0, 0), fun w => absurd w c⟩
      obtain ⟨g, hg⟩ := Classical.skolem.mp hsk
      have hcls := ct_cls (P := smP (p :: ps) t R) (Q := fun k => smP ps (t * gs p k) R) (M := M + 1) (L := M + 1) (by omega) 21 (fun n => (g n).1) (fun n => (g n).2) (fun n hn h => by
        obtain ⟨h1, h2, h3⟩ := smP_iff.mp h
        obtain ⟨a, b, d⟩ := hg n h1
        have hpk : 0 < p ^ (g n).1 := Nat.pow_pos (by omega)
        have hk : (g n).1 < 21 := by
          rcases Nat.lt_or_ge (g n).1 21 with q | q
          · exact q
          · exfalso
            have e1 : 2 ^ (g n).1 ≤ p ^ (g n).1 := Nat.pow_le_pow_left hp2 _
            have e2 : 2 ^ 21 ≤ 2 ^ (g n).1 := Nat.pow_le_pow_right (by decide) q
            have e3 : p ^ (g n).1 * 1 ≤ p ^ (g n).1 * (g n).2 := Nat.mul_le_mul_left _ d
            have e4 : (2 : Nat) ^ 21 = 2097152 := by decide
            omega
        have hz : (g n).2 ≤ n := by
          have : 1 * (g n).2 ≤ p ^ (g n).1 * (g n).2 := Nat.mul_le_mul_right _ hpk
          omega
        refine ⟨hk, by show (g n).2 < M + 1; omega, smP_iff.mpr ⟨d, fun q hq hd => ?_, ?_⟩⟩
        · have hdn : q ∣ n := by rw [a]; exact Nat.dvd_trans hd (Nat.dvd_mul_left _ _)
          rcases List.mem_cons.mp (h2 q hq hdn) with e | e
          · subst e; exact absurd hd b
          · exact e
        · show R (t * gs p (g n).1 * sg (g n).2) = true
          rw [Nat.mul_assoc, ← sg_pow hp b d, ← a]
          exact h3) (fun x y hx hy h1 h2 e1 e2 => by
        obtain ⟨a1, _, _⟩ := hg x (smP_iff.mp h1).1
        obtain ⟨a2, _, _⟩ := hg y (smP_iff.mp h2).1
        have e1 : (g x).1 = (g y).1 := e1
        have e2 : (g x).2 = (g y).2 := e2
        rw [a1, a2, e1, e2])
      refine Nat.le_trans hcls ?_
      -- the sum against the loop
      have big : ∀ k, M < t * gs p k → fb_ct (smP ps (t * gs p k) R) (M + 1) = 0 := by
        intro k hk
        refine fb_ct_zero.mpr (fun n _ => ?_)
        have : ¬ smP ps (t * gs p k) R n = true := fun w => by
          obtain ⟨h1, _, h3⟩ := smP_iff.mp w
          have h3 := hR _ h3
          have := sg_n h1
          have : t * gs p k * 1 ≤ t * gs p k * sg n := Nat.mul_le_mul_left _ (by omega)
          omega
        simpa using this
      have hloop : ∀ f j, fb_sm (fun k => fb_ct (smP ps (t * gs p (j + k)) R) (M + 1)) f ≤ lpE M (goA M (indz R) ps) (indz R) p t f (gs p j) := by
        intro f
        induction f with
        | zero => intro j; exact Nat.le_refl _
        | succ f ihf =>
          intro j
          unfold lpE
          by_cases cb : M < t * gs p j
          · rw [if_pos cb]
            refine Nat.le_of_eq ?_
            have : fb_sm (fun k => fb_ct (smP ps (t * gs p (j + k)) R) (M + 1)) (f + 1) = fb_sm (fun _ => 0) (f + 1) := fb_sm_cong (fun k _ => big (j + k) (by
              have := Nat.mul_le_mul_left t (gs_lt' p hp2 j k)
              omega))
            rw [this, fb_sm_const, Nat.mul_zero]
          · rw [if_neg cb]
            have hfr : fb_sm (fun k => fb_ct (smP ps (t * gs p (j + k)) R) (M + 1)) (f + 1) = fb_ct (smP ps (t * gs p j) R) (M + 1) + fb_sm (fun k => fb_ct (smP ps (t * gs p (j + 1 + k)) R) (M + 1)) f := by
              rw [Nat.add_comm f 1, fb_sm_split]
              congr 1
              · show 0 + fb_ct (smP ps (t * gs p (j + 0)) R) (M + 1) = _
                rw [Nat.zero_add, Nat.add_zero]
              · refine fb_sm_cong (fun k _ => ?_)
                show fb_ct (smP ps (t * gs p (j + (1 + k))) R) (M + 1) = fb_ct (smP ps (t * gs p (j + 1 + k)) R) (M + 1)
                rw [← Nat.add_assoc]
            rw [hfr]
            have h1 := ihf (j + 1)
            have h2 := ih (t * gs p j) (Nat.mul_pos ht (by have := gs_pow2 hp2 j; have := Nat.pow_pos (n := j) (show 0 < 2 by decide); omega))
            have e : p * gs p j + 1 = gs p (j + 1) := rfl
            rw [e]
            omega
      have h0 := ih t ht
      have h1 := hloop 20 1
      rw [gs_one] at h1
      have hfr : fb_sm (fun k => fb_ct (smP ps (t * gs p k) R) (M + 1)) 21 = fb_ct (smP ps t R) (M + 1) + fb_sm (fun k => fb_ct (smP ps (t * gs p (1 + k)) R) (M + 1)) 20 := by
        rw [show (21 : Nat) = 1 + 20 from rfl, fb_sm_split]
        congr 1
        show 0 + fb_ct (smP ps (t * 1) R) (M + 1) = _
        rw [Nat.zero_add, Nat.mul_one]
      show fb_sm (fun k => fb_ct (smP ps (t * gs p k) R) (M + 1)) 21 ≤ _
      rw [hfr]
      omega
theorem p46_pr : ∀ p ∈ p46, prB p = true := by decide +kernel
theorem p46_up : p46.Pairwise (· < ·) := by decide +kernel
def eqmz (m : Nat) : Nat → Bool := fun t => decide (t = m)
theorem smooth_few {m : Nat} (hm : m ≤ 1000000) : fb_ct (smP p46 1 (eqmz m)) (1000000 + 1) ≤ 286 := by
  have h1 := goA_all (M := 1000000) (R := eqmz m) (Nat.le_refl _) (fun u hu => by
    have := of_decide_eq_true hu
    omega) p46 (fun p hp => (prB_iff p).mp (p46_pr p hp)) p46_up 1 (Nat.le_refl 1)
  have hmod : m % 2053 < 4096 := Nat.lt_trans (Nat.mod_lt m (by decide)) (by decide)
  have h2 := cA_le (m % 2053) hmod
  have h3 : ∀ u, indz (eqmz m) u ≤ cR (m % 2053) u := by
    intro u
    unfold indz eqmz cR
    by_cases c : u = m
    · rw [if_pos (decide_eq_true c), if_pos (by rw [c])]; exact Nat.le_refl _
    · rw [if_neg (fun w => c (of_decide_eq_true w))]; exact Nat.zero_le _
  have h4 := goA_mono (M := 1000000) h3 p46 1
  have h5 := h3 1
  unfold cA at h2
  omega
