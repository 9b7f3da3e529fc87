/-! joining powers of unlike primes -/
def Tj (B E : Nat → Nat) (x : Nat) : Nat → Nat → Nat → Nat → Nat
  | 0, _, _, _ => 0
  | d + 1, i, r, p => Tj B E x d (i + 1) r p + (if gs (B i) (E i) ∣ r ∧ ¬ B i ∣ p then (if gs (B i) (E i) = r then (if x = p * B i ^ E i then 1 else 0) else Tj B E x d (i + 1) (r / gs (B i) (E i)) (p * B i ^ E i)) else 0)
theorem Tj_s (B E : Nat → Nat) (x d i r p : Nat) : Tj B E x (d + 1) i r p = Tj B E x d (i + 1) r p + (if gs (B i) (E i) ∣ r ∧ ¬ B i ∣ p then (if gs (B i) (E i) = r then (if x = p * B i ^ E i then 1 else 0) else Tj B E x d (i + 1) (r / gs (B i) (E i)) (p * B i ^ E i)) else 0) := rfl
theorem Tj_big {B E : Nat → Nat} {x c : Nat} : ∀ d i r p, i + d = c → 0 < r → (∀ k, i ≤ k → k < c → r < gs (B k) (E k)) → Tj B E x d i r p = 0
  | 0, _, _, _, _, _, _ => rfl
  | d + 1, i, r, p, h, h0, hb => by
    rw [Tj_s, Tj_big d (i + 1) r p (by omega) h0 (fun k h1 h2 => hb k (by omega) h2), if_neg]
    intro w
    have := Nat.le_of_dvd h0 w.1
    have := hb i (Nat.le_refl i) (by omega)
    omega
def FoR (mn : Nat) (X : Nat → Nat) (fo : Nat → Int64) : Prop := ∀ k, k < mn → fo k = lN (X k) ∧ X k < 2 ^ 63
theorem few_le {m mn : Nat} (hm : 0 < m) {X : Nat → Nat} (h : ∀ x, cnE X mn x ≤ if sgp m x = true then 1 else 0) : mn ≤ fb_ct (sgp m) (m + 1) := by
  have hin : ∀ k, k < mn → sgp m (X k) = true := by
    intro k hk
    have h1 : 0 < cnE X mn (X k) := cn_mem.mpr ⟨k, hk, rfl⟩
    have h2 := h (X k)
    cases q : sgp m (X k)
    · rw [q] at h2
      simp at h2
      omega
    · rfl
  refine fb_holes _ mn (fun k => fb_ct (sgp m) (X k)) (fun k hk => ?_) (fun i j h1 h2 e => ?_)
  · have h1 := hin k hk
    have h3 : 1 ≤ X k ∧ sg (X k) = m := by
      unfold sgp at h1
      rw [Bool.and_eq_true, decide_eq_true_eq, decide_eq_true_eq] at h1
      exact h1
    have h4 := sg_n h3.1
    have h5 := fb_ct_mono (sgp m) (show X k + 1 ≤ m + 1 by omega)
    rw [fb_ct_succ, if_pos h1] at h5
    show fb_ct (sgp m) (X k) < _
    omega
  · have e : fb_ct (sgp m) (X i) = fb_ct (sgp m) (X j) := e
    have e2 := fb_ct_kth_one (hin i (by omega)) (hin j h2) e
    have h3 := cn_two h1 h2 rfl e2.symm
    have h4 := h (X i)
    split at h4 <;> omega
theorem cnE_app (X : Nat → Nat) (mn v y : Nat) : cnE (fun k => if k = mn then v else X k) (mn + 1) y = cnE X mn y + (if y = v then 1 else 0) := by
  unfold cnE
  rw [fb_ct_succ]
  have e1 : fb_ct (fun i => decide ((if i = mn then v else X i) = y)) mn = fb_ct (fun i => decide (X i = y)) mn := fb_ct_cong (fun k hk => by rw [if_neg (show ¬ k = mn by omega)])
  rw [e1]
  show _ + (if decide ((if mn = mn then v else X mn) = y) = true then 1 else 0) = _
  rw [if_pos (show mn = mn from rfl)]
  by_cases q : y = v
  · rw [if_pos q, if_pos (by simp [q])]
  · rw [if_neg q, if_neg (by simp; exact fun w => q w.symm)]
theorem gs_3 {p e : Nat} (hp : 2 ≤ p) (he : 1 ≤ e) : 3 ≤ gs p e ∧ p ^ e ≤ gs p e := by
  obtain ⟨t, rfl⟩ := Nat.exists_eq_add_of_le he
  have h1 := gs_lt' p hp 1 t
  rw [gs_one] at h1
  refine ⟨by omega, ?_⟩
  have := gs_add p t
  rw [Nat.add_comm 1 t]
  omega
theorem join_f (N : Nat) (hN : 2 ^ 40 ≤ N) {m c : Nat} (hm0 : 0 < m) (hm : m ≤ 1000000) (hc : c ≤ 400) {B E : Nat → Nat} {ba po ps : Nat → Int64} (hR : PwR m c B E ba po ps) (h640 : fb_ct (sgp m) (m + 1) ≤ 640) : ∀ D dep r p i mn (X : Nat → Nat) (fo : Nat → Int64), D + dep = 14 → i ≤ c → 1 ≤ r → 1 ≤ p → 3 ^ dep * r ≤ 1000000 → p * r ≤ 1000000 → (r = 1 → dep = 0) → FoR mn X fo → (∀ x, cnE X mn x + Tj B E x (c - i) i r p ≤ if sgp m x = true then 1 else 0) → ∃ (mn' : Nat) (X' : Nat → Nat) (fo' : Nat → Int64), f_X9_join N D (lN r) (lN p) (nI i) (nI dep) (nI c) (nI mn) ba po ps fo = some (nI mn', fo') ∧ FoR mn' X' fo' ∧ ∀ x, cnE X' mn' x = cnE X mn x + Tj B E x (c - i) i r p := by
  have h40 : (2 : Nat) ^ 40 = 1099511627776 := by decide
  obtain ⟨hv, hso⟩ := hR
  intro D
  induction D with
  | zero =>
    intro dep r p i mn X fo hD hi hr hp h3 hpr hr1 hF hle
    exfalso
    have e : dep = 14 := by omega
    subst e
    have : (3 : Nat) ^ 14 = 4782969 := by decide
    have : 3 ^ 14 * 1 ≤ 3 ^ 14 * r := Nat.mul_le_mul_left _ hr
    omega
  | succ D ihD =>
    intro dep r p i mn X fo hD hi hr hp h3 hpr hr1 hF hle
    have hdep : dep < 12 := by
      rcases Nat.lt_or_ge dep 12 with q | q
      · exact q
      · exfalso
        have h1 : 3 ^ 12 ≤ 3 ^ dep := Nat.pow_le_pow_right (by decide) q
        have h2 : (3 : Nat) ^ 12 = 531441 := by decide
        rcases Nat.eq_or_lt_of_le hr with w | w
        · have := hr1 w.symm; omega
        · have : 3 ^ dep * 2 ≤ 3 ^ dep * r := Nat.mul_le_mul_left _ w
          omega
    show ∃ (mn' : Nat) (X' : Nat → Nat) (fo' : Nat → Int64), b_X9_join N (f_X9_join N D) (lN r) (lN p) (nI i) (nI dep) (nI c) (nI mn) ba po ps fo = some (nI mn', fo') ∧ FoR mn' X' fo' ∧ ∀ x, cnE X' mn' x = cnE X mn x + Tj B E x (c - i) i r p
    unfold b_X9_join
    rw [if_pos (L_lt dep 12 hdep (by decide))]
    unfold l_X9_join_12
    refine lp_post (I := fun (z : Int32 × Int32 × (Nat → Int64)) => ∃ (j n : Nat) (Z : Nat → Nat), j ≤ c ∧ z.1 = nI j ∧ z.2.1 = nI n ∧ FoR n Z z.2.2 ∧ ∀ x, cnE Z n x + Tj B E x (c - j) j r p = cnE X mn x + Tj B E x (c - i) i r p) (μ := fun z => 401 - z.1.toNatClampNeg) (post := fun q => ∃ (mn' : Nat) (X' : Nat → Nat) (fo' : Nat → Int64), q = some (nI mn', fo') ∧ FoR mn' X' fo' ∧ ∀ x, cnE X' mn' x = cnE X mn x + Tj B E x (c - i) i r p) ?_ N _ ?_ ?_
    · intro z K hI hK
      obtain ⟨y1, y2, y3⟩ := z
      obtain ⟨j, n, Z, hj, e1, e2, hFo, htot⟩ := hI
      simp only at e1 e2 hFo
      subst e1
      subst e2
      have hlez : ∀ x, cnE Z n x ≤ if sgp m x = true then 1 else 0 := fun x => by
        have h1 := htot x
        have h2 := hle x
        omega
      have hn640 := few_le hm0 hlez
      show ∃ (mn' : Nat) (X' : Nat → Nat) (fo' : Nat → Int64), s_X9_join_12 N (f_X9_join N D) (lN r) (lN p) (nI dep) (nI c) ba po ps K (nI j) (nI n) y3 = some (nI mn', fo') ∧ FoR mn' X' fo' ∧ ∀ x, cnE X' mn' x = cnE X mn x + Tj B E x (c - i) i r p
      unfold s_X9_join_12
      by_cases c1 : c ≤ j
      · rw [if_pos (L_le c j c1 (by omega))]
        refine ⟨n, Z, y3, rfl, hFo, fun x => ?_⟩
        have := htot x
        rw [show c - j = 0 by omega] at this
        exact this
      · have hjv := hv j (by omega)
        obtain ⟨g3, gpw⟩ := gs_3 hjv.2.2.2.1.1 hjv.2.2.2.2.1
        have hgm := Nat.le_of_dvd hm0 hjv.2.2.2.2.2
        have hp2 := hjv.2.2.2.1.1
        have hpb : B j ≤ gs (B j) (E j) := by
          have h1 : B j ^ 1 ≤ B j ^ E j := Nat.pow_le_pow_right (by omega) hjv.2.2.2.2.1
          rw [Nat.pow_one] at h1
          omega
        obtain ⟨d, hd⟩ : ∃ d, c - j = d + 1 := ⟨c - j - 1, by omega⟩
        have hd2 : c - (j + 1) = d := by omega
        have hr6 : r ≤ 1000000 := by
          have : 1 * r ≤ p * r := Nat.mul_le_mul_right r hp
          omega
        have hp6 : p ≤ 1000000 := by
          have : p * 1 ≤ p * r := Nat.mul_le_mul_left p hr
          omega
        have hμ : 401 - (nI (j + 1)).toNatClampNeg < 401 - (nI j).toNatClampNeg := by rw [nI_clamp (by omega), nI_clamp (by omega)]; omega
        rw [if_neg (L_nle c j (by omega) (by omega)), if_neg (L_nle 400 j (by omega) (by decide)), if_neg (L_in j 400 (by omega) (by omega)), nI_clamp (by omega), hjv.2.2.1, xl]
        generalize hs : gs (B j) (E j) = s at *
        rw [if_neg (M_nlt s 2 (by omega) (by omega))]
        -- going on with nothing new
        have skip : (∀ x, (if gs (B j) (E j) ∣ r ∧ ¬ B j ∣ p then (if gs (B j) (E j) = r then (if x = p * B j ^ E j then 1 else 0) else Tj B E x d (j + 1) (r / gs (B j) (E j)) (p * B j ^ E j)) else 0) = 0) → ∃ (mn' : Nat) (X' : Nat → Nat) (fo' : Nat → Int64), K (nI (j + 1), nI n, y3) = some (nI mn', fo') ∧ FoR mn' X' fo' ∧ ∀ x, cnE X' mn' x = cnE X mn x + Tj B E x (c - i) i r p := by
          intro h0
          refine hK _ ⟨j + 1, n, Z, by omega, rfl, rfl, hFo, fun x => ?_⟩ hμ
          have := htot x
          rw [hd, Tj_s, h0 x] at this
          rw [hd2]
          omega
        by_cases c2 : s ≤ r
        · rw [if_pos (M_le s r c2 (by omega))]
          -- the common end
          have j86 : ∀ v10 : Int32, (v10 = 0 → s ≠ r ∧ s * s ≤ r) → (¬ v10 = 0 → s = r) → ∃ (mn' : Nat) (X' : Nat → Nat) (fo' : Nat → Int64), j_X9_join_86 N (f_X9_join N D) K (lN r) (lN p) (nI dep) (nI j) (lN s) v10 (nI c) (nI n) ba po ps y3 = some (nI mn', fo') ∧ FoR mn' X' fo' ∧ ∀ x, cnE X' mn' x = cnE X mn x + Tj B E x (c - i) i r p := by
            intro v10 hv0 hv1
            unfold j_X9_join_86
            rw [if_neg (M_ne s 0 (by omega) (by omega) (by decide))]
            by_cases c3 : r % s = 0
            · have hdr := Nat.dvd_of_mod_eq_zero c3
              rw [if_pos ((M_rem (by omega) (by omega) (by omega)).mpr c3), if_neg (L_in j 400 (by omega) (by omega)), nI_clamp (by omega), hjv.1, hjv.2.1, if_neg (M_nlt (B j) 2 hp2 (by omega)), xl, if_neg (M_ne (B j) 0 (by omega) (by omega) (by decide))]
              by_cases c4 : p % B j = 0
              · rw [if_pos ((M_rem (by omega) (by omega) (by omega)).mpr c4), xl, nI_1]
                refine skip (fun x => ?_)
                rw [if_neg (fun w => w.2 (Nat.dvd_of_mod_eq_zero c4))]
              · have hnd : ¬ B j ∣ p := fun w => c4 (Nat.mod_eq_zero_of_dvd w)
                rw [if_neg (fun w => c4 ((M_rem (by omega) (by omega) (by omega)).mp w)), lN_mul]
                have hpw : p * B j ^ E j ≤ p * s := Nat.mul_le_mul_left p gpw
                by_cases c5 : v10 = 0
                · obtain ⟨hne, hss⟩ := hv0 c5
                  rw [if_pos c5, pk_lDiv (by omega) (by omega) (by omega), nI_1, nI_1]
                  obtain ⟨t, ht⟩ := hdr
                  have hrt : r / s = t := by rw [ht]; exact Nat.mul_div_cancel_left t (by omega)
                  have ht2 : 2 ≤ t := by
                    rcases Nat.lt_or_ge t 2 with q | q
                    · rcases (show t = 0 ∨ t = 1 by omega) with z | z <;> subst z <;> omega
                    · exact q
                  have hsub : ∀ x, cnE Z n x + Tj B E x (c - (j + 1)) (j + 1) (r / s) (p * B j ^ E j) ≤ if sgp m x = true then 1 else 0 := by
                    intro x
                    have h1 := htot x
                    have h2 := hle x
                    rw [hd, Tj_s, hs, if_pos ⟨⟨t, ht⟩, hnd⟩, if_neg hne] at h1
                    rw [hd2]
                    omega
                  have hpow1 : 1 ≤ p * B j ^ E j := Nat.mul_pos hp (Nat.pow_pos (by omega))
                  obtain ⟨n2, Z2, fo2, k1, k2, k3⟩ := ihD (dep + 1) (r / s) (p * B j ^ E j) (j + 1) n Z y3 (by omega) (by omega) (by omega) hpow1 (by
                    rw [hrt, Nat.pow_succ, Nat.mul_assoc]
                    have : 3 * t ≤ s * t := Nat.mul_le_mul_right t g3
                    have : 3 ^ dep * (3 * t) ≤ 3 ^ dep * r := Nat.mul_le_mul_left _ (by rw [ht]; exact this)
                    omega) (by
                    rw [hrt]
                    have h1 : p * B j ^ E j * t ≤ p * s * t := Nat.mul_le_mul_right t hpw
                    rw [Nat.mul_assoc p s t, ← ht] at h1
                    omega) (fun w => by omega) hFo hsub
                  rw [k1, ob, xl]
                  refine hK _ ⟨j + 1, n2, Z2, by omega, rfl, rfl, k2, fun x => ?_⟩ hμ
                  have h1 := htot x
                  rw [hd, Tj_s, hs, if_pos ⟨⟨t, ht⟩, hnd⟩, if_neg hne] at h1
                  have h2 := k3 x
                  rw [hd2] at h2
                  rw [hd2]
                  omega
                · have hsr := hv1 c5
                  rw [if_neg c5]
                  have happ : ∀ x, cnE (fun k => if k = n then p * B j ^ E j else Z k) (n + 1) x ≤ if sgp m x = true then 1 else 0 := by
                    intro x
                    rw [cnE_app]
                    have h1 := htot x
                    have h2 := hle x
                    rw [hd, Tj_s, hs, if_pos ⟨by rw [hsr]; exact Nat.dvd_refl r, hnd⟩, if_pos hsr] at h1
                    omega
                  have hn1 := few_le hm0 happ
                  unfold f_X9_keepFound
                  rw [if_neg (L_nle 640 n (by omega) (by decide)), if_neg (L_in n 640 (by omega) (by omega)), nI_clamp (by omega), xl, nI_1, ob, xl, nI_1]
                  refine hK _ ⟨j + 1, n + 1, fun k => if k = n then p * B j ^ E j else Z k, by omega, rfl, rfl, fun k hk => ?_, fun x => ?_⟩ hμ
                  · show vp_updL y3 n _ k = lN (if k = n then p * B j ^ E j else Z k) ∧ (if k = n then p * B j ^ E j else Z k) < 2 ^ 63
                    by_cases q : k = n
                    · subst q
                      rw [pk_uLs, if_pos (show k = k from rfl)]
                      refine ⟨rfl, ?_⟩
                      have : p * s ≤ p * r := by rw [hsr]; exact Nat.le_refl _
                      omega
                    · rw [pk_uLn q, if_neg q]
                      exact hFo k (by omega)
                  · rw [cnE_app]
                    have h1 := htot x
                    rw [hd, Tj_s, hs, if_pos ⟨by rw [hsr]; exact Nat.dvd_refl r, hnd⟩, if_pos hsr] at h1
                    rw [hd2]
                    omega
            · rw [if_neg (fun w => c3 ((M_rem (by omega) (by omega) (by omega)).mp w)), xl, nI_1]
              refine skip (fun x => ?_)
              rw [hs, if_neg (fun w => c3 (Nat.mod_eq_zero_of_dvd w.1))]
          by_cases c6 : s = r
          · rw [if_pos (by rw [c6])]
            unfold j_X9_join_69
            rw [if_neg one0]
            exact j86 1 (fun w => absurd w one0) (fun _ => c6)
          · rw [if_neg (M_ne s r c6 (by omega) (by omega))]
            unfold j_X9_join_69
            rw [if_pos rfl, lN_mul]
            have hss63 : s * s < 2 ^ 63 := Nat.lt_of_le_of_lt (Nat.mul_le_mul (show s ≤ 1000000 by omega) (show s ≤ 1000000 by omega)) (by decide)
            by_cases c7 : r < s * s
            · rw [if_pos (M_lt r (s * s) c7 hss63), xl, nI_1]
              refine skip (fun x => ?_)
              rw [hs]
              by_cases w : s ∣ r ∧ ¬ B j ∣ p
              · rw [if_pos w, if_neg c6]
                obtain ⟨t, ht⟩ := w.1
                have hrt : r / s = t := by rw [ht]; exact Nat.mul_div_cancel_left t (by omega)
                have hts : t < s := by
                  rw [ht] at c7
                  exact Nat.lt_of_mul_lt_mul_left c7
                rw [hrt]
                refine Tj_big (c := c) d (j + 1) t _ (by omega) ?_ (fun k h1 h2 => ?_)
                · rcases Nat.eq_zero_or_pos t with z | z
                  · subst z; omega
                  · exact z
                · have := hso j k (by omega) h2
                  omega
              · rw [if_neg w]
            · rw [if_neg (M_nlt r (s * s) (by omega) (by omega))]
              exact j86 0 (fun _ => ⟨c6, by omega⟩) (fun w => absurd rfl w)
        · rw [if_neg (M_nle s r (by omega) (by omega))]
          refine ⟨n, Z, y3, rfl, hFo, fun x => ?_⟩
          have := htot x
          rw [Tj_big (c := c) (c - j) j r p (by omega) hr (fun k h1 h2 => by
            have := hso j k h1 h2
            omega)] at this
          omega
    · exact ⟨i, mn, X, hi, rfl, rfl, hF, fun x => rfl⟩
    · show 401 - _ < N
      omega
