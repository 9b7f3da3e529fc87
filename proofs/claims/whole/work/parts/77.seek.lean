/-! what joining finds: just the numbers with that sum, each once -/
def Cx (B E : Nat → Nat) (c i r p x : Nat) : Prop := ∃ y, x = p * y ∧ 0 < y ∧ (∀ q, pr q → q ∣ y → ¬ q ∣ p) ∧ sg y = r ∧ ∀ q e z, pr q → 1 ≤ e → y = q ^ e * z → ¬ q ∣ z → ∃ k, i ≤ k ∧ k < c ∧ B k = q ∧ E k = e
theorem sg_qz {q e z : Nat} (hq : pr q) (hz : ¬ q ∣ z) (hz0 : 0 < z) : sg (q ^ e * z) = gs q e * sg z := sg_pow hq hz hz0 e
theorem sg_q {q e : Nat} (hq : pr q) : sg (q ^ e) = gs q e := by
  have := sg_qz (e := e) hq (z := 1) (fun h => by have := Nat.le_of_dvd (by decide) h; have := hq.1; omega) (by decide)
  rw [Nat.mul_one, sg_1, Nat.mul_one] at this
  exact this
theorem nd1 {q : Nat} (hq : pr q) : ¬ q ∣ 1 := fun h => by have := Nat.le_of_dvd (by decide) h; have := hq.1; omega
theorem Tj_iff {m c : Nat} {B E : Nat → Nat} (hv : ∀ k, k < c → pr (B k) ∧ 1 ≤ E k) (hun : ∀ j k, j < c → k < c → B j = B k → E j = E k → j = k) (x : Nat) : ∀ d i r p, i + d = c → 2 ≤ r → 1 ≤ p → (Cx B E c i r p x → Tj B E x d i r p = 1) ∧ (¬ Cx B E c i r p x → Tj B E x d i r p = 0) := by
  intro d
  induction d with
  | zero =>
    intro i r p hi hr hp
    refine ⟨fun h => ?_, fun _ => rfl⟩
    exfalso
    obtain ⟨y, _, hy0, _, hs, hc⟩ := h
    have hy2 : 2 ≤ y := by
      rcases Nat.lt_or_ge y 2 with q | q
      · have : y = 1 := by omega
        subst this
        rw [sg_1] at hs
        omega
      · exact q
    obtain ⟨q, hq, hqy, _⟩ := pr_has hy2
    obtain ⟨e, z, e1, e2, e3⟩ := split_pow hq.1 hy0
    have he : 1 ≤ e := by
      rcases Nat.eq_zero_or_pos e with w | w
      · subst w
        rw [Nat.pow_zero, Nat.one_mul] at e1
        rw [e1] at hqy
        exact absurd hqy e2
      · exact w
    obtain ⟨k, k1, k2, _⟩ := hc q e z hq he e1 e2
    omega
  | succ d ih =>
    intro i r p hi hr hp
    obtain ⟨hq, he⟩ := hv i (by omega)
    have hq2 := hq.1
    have hqe0 : 0 < B i ^ E i := Nat.pow_pos (by omega)
    have g3 := (gs_3 hq2 he).1
    obtain ⟨i1, i2⟩ := ih (i + 1) r p (by omega) hr hp
    have hpq : 1 ≤ p * B i ^ E i := Nat.mul_pos hp hqe0
    rw [Tj_s]
    -- from later to here
    have up1 : Cx B E c (i + 1) r p x → Cx B E c i r p x := by
      rintro ⟨y, a1, a2, a3, a4, a5⟩
      refine ⟨y, a1, a2, a3, a4, fun q e z h1 h2 h3 h4 => ?_⟩
      obtain ⟨k, k1, k2, k3⟩ := a5 q e z h1 h2 h3 h4
      exact ⟨k, by omega, k2, k3⟩
    refine ⟨fun h => ?_, fun h => ?_⟩
    · obtain ⟨y, a1, a2, a3, a4, a5⟩ := h
      by_cases comp : ∃ z, y = B i ^ E i * z ∧ ¬ B i ∣ z
      · obtain ⟨z, ez, hz⟩ := comp
        have hz0 : 0 < z := by
          rcases Nat.eq_zero_or_pos z with w | w
          · subst w; omega
          · exact w
        have hqy : B i ∣ y := by
          rw [ez]
          refine Nat.dvd_trans ?_ (Nat.dvd_mul_right _ z)
          obtain ⟨t, ht⟩ := Nat.exists_eq_add_of_le he
          rw [ht, Nat.pow_add, Nat.pow_one]
          exact Nat.dvd_mul_right _ _
        have n1 : ¬ Cx B E c (i + 1) r p x := by
          rintro ⟨y2, b1, b2, b3, b4, b5⟩
          have : y2 = y := Nat.eq_of_mul_eq_mul_left hp (by rw [← b1, ← a1])
          subst this
          obtain ⟨k, k1, k2, k3, k4⟩ := b5 (B i) (E i) z hq he ez hz
          have := hun k i k2 (by omega) k3 k4
          omega
        have hsz := sg_qz (e := E i) hq hz hz0
        rw [← ez, a4] at hsz
        have hnp := a3 (B i) hq hqy
        rw [i2 n1, Nat.zero_add, if_pos ⟨⟨sg z, hsz⟩, hnp⟩]
        by_cases cs : gs (B i) (E i) = r
        · rw [if_pos cs, if_pos]
          have : sg z = 1 := by
            rw [← cs] at hsz
            have h1 : gs (B i) (E i) * 1 = gs (B i) (E i) * sg z := by omega
            exact (Nat.eq_of_mul_eq_mul_left (by omega) h1).symm
          have hz1 : z = 1 := by
            have := sg_ge hz0
            split at this <;> omega
          rw [a1, ez, hz1, Nat.mul_one]
        · rw [if_neg cs]
          have hrz : r / gs (B i) (E i) = sg z := by rw [hsz]; exact Nat.mul_div_cancel_left _ (by omega)
          have hz2 : 2 ≤ sg z := by
            have h1 := sg_n hz0
            rcases Nat.lt_or_ge (sg z) 2 with w | w
            · exfalso
              have : sg z = 1 := by omega
              rw [this, Nat.mul_one] at hsz
              exact cs hsz.symm
            · exact w
          rw [hrz]
          refine (ih (i + 1) (sg z) (p * B i ^ E i) (by omega) hz2 hpq).1 ⟨z, by rw [a1, ez, Nat.mul_assoc], hz0, fun w hw hwz hwp => ?_, rfl, fun w f z2 hw hf hz3 hz4 => ?_⟩
          · rcases pr_mul hw hwp with v | v
            · exact a3 w hw (by rw [ez]; exact Nat.dvd_trans hwz (Nat.dvd_mul_left z _)) v
            · have := pr_eq hw hq (pr_pow hw _ v)
              subst this
              exact hz hwz
          · have hwz : w ∣ z := by
              rw [hz3]
              refine Nat.dvd_trans ?_ (Nat.dvd_mul_right _ z2)
              obtain ⟨t, ht⟩ := Nat.exists_eq_add_of_le hf
              rw [ht, Nat.pow_add, Nat.pow_one]
              exact Nat.dvd_mul_right _ _
            have hne : w ≠ B i := fun v => hz (by rw [← v]; exact hwz)
            obtain ⟨k, k1, k2, k3, k4⟩ := a5 w f (B i ^ E i * z2) hw hf (by rw [ez, hz3, Nat.mul_left_comm]) (fun v => by
              rcases pr_mul hw v with u | u
              · exact hne (pr_eq hw hq (pr_pow hw _ u))
              · exact hz4 u)
            refine ⟨k, ?_, k2, k3, k4⟩
            rcases Nat.eq_or_lt_of_le k1 with u | u
            · subst u; exact absurd k3.symm hne
            · exact u
      · have y1 : Cx B E c (i + 1) r p x := ⟨y, a1, a2, a3, a4, fun w f z hw hf hz3 hz4 => by
          obtain ⟨k, k1, k2, k3, k4⟩ := a5 w f z hw hf hz3 hz4
          refine ⟨k, ?_, k2, k3, k4⟩
          rcases Nat.eq_or_lt_of_le k1 with u | u
          · subst u
            exfalso
            apply comp
            rw [k3, k4]
            exact ⟨z, hz3, hz4⟩
          · exact u⟩
        rw [i1 y1]
        have : (if gs (B i) (E i) ∣ r ∧ ¬ B i ∣ p then (if gs (B i) (E i) = r then (if x = p * B i ^ E i then 1 else 0) else Tj B E x d (i + 1) (r / gs (B i) (E i)) (p * B i ^ E i)) else 0) = 0 := by
          by_cases w : gs (B i) (E i) ∣ r ∧ ¬ B i ∣ p
          · rw [if_pos w]
            by_cases cs : gs (B i) (E i) = r
            · rw [if_pos cs, if_neg]
              intro ex
              apply comp
              refine ⟨1, ?_, nd1 hq⟩
              rw [Nat.mul_one]
              exact Nat.eq_of_mul_eq_mul_left hp (by rw [← a1]; exact ex)
            · rw [if_neg cs]
              obtain ⟨t, ht⟩ := w.1
              have hrt : r / gs (B i) (E i) = t := by
                have : r / gs (B i) (E i) = gs (B i) (E i) * t / gs (B i) (E i) := by rw [← ht]
                rw [this]; exact Nat.mul_div_cancel_left t (by omega)
              have ht2 : 2 ≤ t := by
                rcases Nat.lt_or_ge t 2 with q | q
                · rcases (show t = 0 ∨ t = 1 by omega) with z | z <;> subst z <;> omega
                · exact q
              rw [hrt]
              refine (ih (i + 1) t (p * B i ^ E i) (by omega) ht2 hpq).2 ?_
              rintro ⟨y2, b1, b2, b3, b4, b5⟩
              apply comp
              refine ⟨y2, Nat.eq_of_mul_eq_mul_left hp (by rw [← a1, b1, Nat.mul_assoc]), fun v => b3 (B i) hq v ?_⟩
              refine Nat.dvd_trans ?_ (Nat.dvd_mul_left _ p)
              obtain ⟨t2, ht2⟩ := Nat.exists_eq_add_of_le he
              rw [ht2, Nat.pow_add, Nat.pow_one]
              exact Nat.dvd_mul_right _ _
          · rw [if_neg w]
        rw [this]
    · rw [i2 (fun w => h (up1 w)), Nat.zero_add]
      by_cases w : gs (B i) (E i) ∣ r ∧ ¬ B i ∣ p
      · rw [if_pos w]
        by_cases cs : gs (B i) (E i) = r
        · rw [if_pos cs, if_neg]
          intro ex
          apply h
          refine ⟨B i ^ E i, ex, hqe0, fun q hq2 hd hd2 => ?_, by rw [sg_q hq]; exact cs, fun q e z h1 h2 h3 h4 => ?_⟩
          · have := pr_eq hq2 hq (pr_pow hq2 _ hd)
            subst this
            exact w.2 hd2
          · have hqd : q ∣ B i ^ E i := by
              rw [h3]
              refine Nat.dvd_trans ?_ (Nat.dvd_mul_right _ z)
              obtain ⟨t, ht⟩ := Nat.exists_eq_add_of_le h2
              rw [ht, Nat.pow_add, Nat.pow_one]
              exact Nat.dvd_mul_right _ _
            have e1 := pr_eq h1 hq (pr_pow h1 _ hqd)
            subst e1
            obtain ⟨f1, _⟩ := val_uniq h1 (E i) e 1 z (nd1 h1) h4 (by rw [Nat.mul_one]; exact h3)
            exact ⟨i, Nat.le_refl i, by omega, rfl, f1⟩
        · rw [if_neg cs]
          obtain ⟨t, ht⟩ := w.1
          have hrt : r / gs (B i) (E i) = t := by
            have : r / gs (B i) (E i) = gs (B i) (E i) * t / gs (B i) (E i) := by rw [← ht]
            rw [this]; exact Nat.mul_div_cancel_left t (by omega)
          have ht2 : 2 ≤ t := by
            rcases Nat.lt_or_ge t 2 with q | q
            · rcases (show t = 0 ∨ t = 1 by omega) with z | z <;> subst z <;> omega
            · exact q
          rw [hrt]
          refine (ih (i + 1) t (p * B i ^ E i) (by omega) ht2 hpq).2 ?_
          rintro ⟨y, b1, b2, b3, b4, b5⟩
          apply h
          have hqpq : B i ∣ B i ^ E i := by
            obtain ⟨t2, ht2⟩ := Nat.exists_eq_add_of_le he
            rw [ht2, Nat.pow_add, Nat.pow_one]
            exact Nat.dvd_mul_right _ _
          have hqy : ¬ B i ∣ y := fun v => b3 (B i) hq v (Nat.dvd_trans hqpq (Nat.dvd_mul_left _ p))
          refine ⟨B i ^ E i * y, by rw [b1, Nat.mul_assoc], Nat.mul_pos hqe0 b2, fun q hq2 hd hd2 => ?_, by rw [sg_qz hq hqy b2, b4, ← ht], fun q e z h1 h2 h3 h4 => ?_⟩
          · rcases pr_mul hq2 hd with v | v
            · have := pr_eq hq2 hq (pr_pow hq2 _ v)
              subst this
              exact w.2 hd2
            · exact b3 q hq2 v (Nat.dvd_trans hd2 (Nat.dvd_mul_right p _))
          · by_cases e1 : q = B i
            · subst e1
              obtain ⟨f1, _⟩ := val_uniq h1 (E i) e y z hqy h4 h3
              exact ⟨i, Nat.le_refl i, by omega, rfl, f1⟩
            · -- q^e goes into y
              have hcop : Nat.Coprime (q ^ e) (B i ^ E i) := Nat.Coprime.pow e (E i) (pr_cop h1 (fun v => e1 (pr_eq h1 hq v)))
              have hdv : q ^ e ∣ y := hcop.dvd_of_dvd_mul_left ⟨z, h3⟩
              obtain ⟨z2, hz2⟩ := hdv
              have hqe : 0 < q ^ e := Nat.pow_pos (by have := h1.1; omega)
              have hzz : z = B i ^ E i * z2 := by
                have : q ^ e * z = q ^ e * (B i ^ E i * z2) := by rw [← h3, hz2, Nat.mul_left_comm]
                exact Nat.eq_of_mul_eq_mul_left hqe this
              obtain ⟨k, k1, k2, k3⟩ := b5 q e z2 h1 h2 hz2 (fun v => h4 (by rw [hzz]; exact Nat.dvd_trans v (Nat.dvd_mul_left z2 _)))
              exact ⟨k, by omega, k2, k3⟩
      · rw [if_neg w]
theorem Tj_top {m c : Nat} {B E : Nat → Nat} {ba po ps : Nat → Int64} (hm : 2 ≤ m) (hR : PwR m c B E ba po ps) (hall : ∀ p e, pr p → 1 ≤ e → gs p e ∣ m → cnP B E c p e = 1) (x : Nat) : Tj B E x c 0 m 1 = if sgp m x = true then 1 else 0 := by
  have hun : ∀ j k, j < c → k < c → B j = B k → E j = E k → j = k := by
    have key : ∀ j k, j < k → k < c → B j = B k → E j = E k → False := by
      intro j k hjk hk e1 e2
      obtain ⟨_, _, _, v1, v2, v3⟩ := hR.1 k hk
      have h1 := hall (B k) (E k) v1 v2 v3
      unfold cnP at h1
      have h2 := fb_ct_mono (fun i => decide (B i = B k ∧ E i = E k)) (show k + 1 ≤ c by omega)
      have h3 := fb_ct_mono (fun i => decide (B i = B k ∧ E i = E k)) (show j + 1 ≤ k by omega)
      rw [fb_ct_succ] at h2 h3
      rw [if_pos (decide_eq_true ⟨rfl, rfl⟩)] at h2
      rw [if_pos (decide_eq_true ⟨e1, e2⟩)] at h3
      omega
    intro j k hj hk e1 e2
    rcases Nat.lt_trichotomy j k with w | w | w
    · exact absurd (key j k w hk e1 e2) id
    · exact w
    · exact absurd (key k j w hj e1.symm e2.symm) id
  obtain ⟨t1, t2⟩ := Tj_iff (m := m) (fun k hk => ⟨(hR.1 k hk).2.2.2.1, (hR.1 k hk).2.2.2.2.1⟩) hun x c 0 m 1 (by omega) hm (Nat.le_refl 1)
  have hiff : sgp m x = true ↔ Cx B E c 0 m 1 x := by
    unfold sgp
    rw [Bool.and_eq_true, decide_eq_true_eq, decide_eq_true_eq]
    constructor
    · rintro ⟨h1, h2⟩
      refine ⟨x, (Nat.one_mul x).symm, h1, fun q hq _ => nd1 hq, h2, fun q e z hq he hz hnz => ?_⟩
      have hz0 : 0 < z := by
        rcases Nat.eq_zero_or_pos z with w | w
        · subst w; omega
        · exact w
      have h3 := sg_qz (e := e) hq hnz hz0
      rw [← hz, h2] at h3
      have h4 := hall q e hq he ⟨sg z, h3⟩
      unfold cnP at h4
      obtain ⟨k, k1, k2⟩ := fb_ct_pos.mp (show 0 < fb_ct (fun i => decide (B i = q ∧ E i = e)) c by omega)
      have k2 := of_decide_eq_true k2
      exact ⟨k, Nat.zero_le _, k1, k2.1, k2.2⟩
    · rintro ⟨y, a1, a2, _, a4, _⟩
      rw [Nat.one_mul] at a1
      subst a1
      exact ⟨a2, a4⟩
  by_cases c1 : sgp m x = true
  · rw [if_pos c1]; exact t1 (hiff.mp c1)
  · rw [if_neg c1]; exact t2 (fun w => c1 (hiff.mpr w))
