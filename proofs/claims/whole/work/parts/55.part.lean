/-! part: both sides give one answer -/
def dvb (n : Nat) : Nat → Bool := fun e => decide (e ∣ n)
theorem sm_ct (p : Nat → Prop) [DecidablePred p] : ∀ M, fb_sm (fun d => if p d then 1 else 0) M = fb_ct (fun d => decide (p d)) M
  | 0 => rfl
  | M + 1 => by
    rw [fb_sm_succ, fb_ct_succ, sm_ct p M]
    by_cases h : p M <;> simp [h]
theorem tau_ct (n : Nat) : tau n = fb_ct (dvb n) (n + 1) := sm_ct (fun d => d ∣ n) (n + 1)
theorem dvb_t {n e : Nat} : dvb n e = true ↔ e ∣ n := ⟨fun h => of_decide_eq_true h, fun h => decide_eq_true h⟩
theorem dv_far {n M : Nat} (hn : 0 < n) (h : n + 1 ≤ M) : fb_ct (dvb n) M = tau n := by
  have h1 := fb_ct_split (dvb n) (n + 1) (M - (n + 1))
  rw [show n + 1 + (M - (n + 1)) = M by omega] at h1
  rw [h1, tau_ct]
  have h2 : fb_ct (fun k => dvb n (n + 1 + k)) (M - (n + 1)) = 0 := by
    rw [fb_ct_zero]
    intro k _
    exact decide_eq_false (fun h => by have := Nat.le_of_dvd hn h; omega)
  omega
/-- what part answers -/
def pAn (n : Nat) (v : Int32) (ans : Int64) : Prop := (v = -1 → ans = (nI (tau n)).toInt64) ∧ ∀ j, j < 2 ^ 31 → v = nI j → (∀ d, d ∣ n → fb_ct (dvb n) d = j → ans = lN d) ∧ (tau n ≤ j → ans = -4)
theorem pAn_ex {n : Nat} (hn : 0 < n) {v : Int32} (h : (-1 : Int32) ≤ v) : ∃ ans, pAn n v ans := by
  rcases idx_of h with rfl | ⟨j, hj, rfl⟩
  · exact ⟨_, fun _ => rfl, fun j hj e => absurd e.symm (nI_nem hj)⟩
  · rcases Nat.lt_or_ge j (tau n) with r | r
    · rw [tau_ct] at r
      obtain ⟨d, h1, h2, h3⟩ := fb_ct_kth r
      refine ⟨lN d, fun e => absurd e (nI_nem hj), fun j2 hj2 e => ?_⟩
      have : j = j2 := (nI_eq hj hj2).mp e
      subst this
      refine ⟨fun d2 hd2 e2 => ?_, fun h4 => ?_⟩
      · rw [fb_ct_kth_one h2 (dvb_t.mpr hd2) (h3.trans e2.symm)]
      · rw [tau_ct] at h4; omega
    · refine ⟨-4, fun e => absurd e (nI_nem hj), fun j2 hj2 e => ?_⟩
      have : j = j2 := (nI_eq hj hj2).mp e
      subst this
      refine ⟨fun d2 hd2 e2 => ?_, fun _ => rfl⟩
      exfalso
      have h1 := fb_ct_mono (dvb n) (show d2 + 1 ≤ n + 1 by have := Nat.le_of_dvd hn hd2; omega)
      rw [fb_ct_succ, if_pos (dvb_t.mpr hd2), ← tau_ct] at h1
      omega
theorem howManyParts_f (N : Nat) (hN : 100 ≤ N) {uu n : Nat} (hu : uu ≤ 12) {P : Nat → Int64} {T : Nat → Int32} (hA : SpA uu n P T) : f_X6_howManyParts N (nI uu) T = some (nI (tau n)) := by
  obtain ⟨PP, EE, hF, hv⟩ := hA
  rw [hF.tau]
  have go : ∀ (d f i : Nat), i + d = uu → d < f → l_X6_howManyParts_4 N (nI uu) T f (nI (prodf (fun i => EE i + 1) i), nI i) = some (nI (prodf (fun i => EE i + 1) uu)) := by
    intro d
    induction d with
    | zero =>
      intro f i h1 h2
      obtain ⟨f, rfl⟩ : ∃ z, f = z + 1 := ⟨f - 1, by omega⟩
      show s_X6_howManyParts_4 N (nI uu) T (l_X6_howManyParts_4 N (nI uu) T f) (nI (prodf (fun i => EE i + 1) i)) (nI i) = _
      unfold s_X6_howManyParts_4
      rw [if_pos (L_le uu i (by omega) (by omega)), show i = uu by omega]
    | succ d ih =>
      intro f i h1 h2
      obtain ⟨f, rfl⟩ : ∃ z, f = z + 1 := ⟨f - 1, by omega⟩
      show s_X6_howManyParts_4 N (nI uu) T (l_X6_howManyParts_4 N (nI uu) T f) (nI (prodf (fun i => EE i + 1) i)) (nI i) = _
      unfold s_X6_howManyParts_4
      rw [if_neg (L_nle uu i (by omega) (by omega)), if_neg (L_nle 12 i (by omega) (by decide)), if_neg (L_in i 12 (by omega) (by omega)), nI_clamp (by omega), (hv i (by omega)).2]
      simp only [xl]
      rw [show nI (EE i) + (1 : Int32) = nI (EE i + 1) from nI_1 _, nI_m, show nI i + (1 : Int32) = nI (i + 1) from nI_1 i]
      exact ih f (i + 1) (by omega) (by omega)
  unfold f_X6_howManyParts
  exact go uu N 0 (by omega) (by omega)
theorem partAt_f (N : Nat) (hN : 2 ^ 40 ≤ N) {uu n j : Nat} (hu : uu ≤ 12) (h0 : 0 < n) (hn : n ≤ 10000000000) (hj : j < 2 ^ 31) {P : Nat → Int64} {T : Nat → Int32} (hA : SpA uu n P T) {pk : Int32} {pn : Int64} {parts : Nat → Int64} (hP : PaOK pk pn parts) {ans : Int64} (ha : pAn n (nI j) ans) : ∃ parts', f_X6_partAt N (nI j) (nI uu) (lN n) pk pn P T parts = some (ans, nI (tau n), lN n, parts') ∧ PaA n parts' := by
  obtain ⟨pa, e1, Y, y1, y2, y3⟩ := listParts_f N hN hu h0 hn hA hP
  have ht := tau_le h0 hn
  have hc : ∀ x, cnE Y (tau n) x = if dvb n x then 1 else 0 := fun x => by
    rw [y2 x]
    by_cases h : x ∣ n
    · rw [if_pos h, if_pos (dvb_t.mpr h)]
    · rw [if_neg h, if_neg (fun q => h (dvb_t.mp q))]
  obtain ⟨r1, -⟩ := sorted_rk hc y3
  obtain ⟨a1, a2⟩ := ha.2 j hj rfl
  refine ⟨pa, ?_, Y, y1, y2, y3⟩
  unfold f_X6_partAt
  rw [e1, ob, if_neg (nI_pos hj)]
  simp only
  by_cases h : j < tau n
  · rw [if_neg (L_nle (tau n) j h (by omega)), if_neg (L_nle 2304 j (by omega) (by decide)), if_neg (L_in j 2304 (by omega) hj), nI_clamp hj, (y1 j h).1, a1 (Y j) (dvb_t.mp (r1 j h).1) (r1 j h).2]
  · rw [if_pos (L_le (tau n) j (by omega) hj), a2 (by omega)]
/-! the reference -/
theorem root_f (N : Nat) (hN : 2 ^ 40 ≤ N) {n : Nat} (hn : n ≤ 10000000000) : ∃ s, f_X12_root N (lN n) = some (lN s) ∧ s * s ≤ n ∧ n < (s + 1) * (s + 1) ∧ s ≤ 100000 := by
  have h40 : (2 : Nat) ^ 40 = 1099511627776 := by decide
  unfold f_X12_root l_X12_root_7
  refine lp_post (I := fun (z : Int64 × Int64) => ∃ lo hi : Nat, z.1 = lN lo ∧ z.2 = lN hi ∧ lo ≤ hi ∧ hi ≤ 100000 ∧ lo * lo ≤ n ∧ n < (hi + 1) * (hi + 1)) (μ := fun z => z.2.toInt.toNat - z.1.toInt.toNat) (post := fun r => ∃ s, r = some (lN s) ∧ s * s ≤ n ∧ n < (s + 1) * (s + 1) ∧ s ≤ 100000) ?_ N _ ?_ ?_
  · intro z K hI hK
    obtain ⟨z1, z2⟩ := z
    obtain ⟨lo, hi, e1, e2, h1, h2, h3, h4⟩ := hI
    simp only at e1 e2
    subst e1; subst e2
    show ∃ s, s_X12_root_7 N (lN n) K (lN lo) (lN hi) = some (lN s) ∧ s * s ≤ n ∧ n < (s + 1) * (s + 1) ∧ s ≤ 100000
    unfold s_X12_root_7
    by_cases h : hi ≤ lo
    · rw [if_pos (M_le hi lo h (by omega))]
      have : lo = hi := by omega
      subst this
      exact ⟨lo, rfl, h3, h4, h2⟩
    · rw [if_neg (M_nle hi lo (by omega) (by omega))]
      simp only [xl]
      rw [lN_add, show lN (lo + hi) + (1 : Int64) = lN (lo + hi + 1) from lN_1 _, show (2 : Int64) = lN 2 from rfl, pk_lDiv (by omega) (by decide) (by decide), lN_mul]
      have m1 : lo < (lo + hi + 1) / 2 := by omega
      have m2 : (lo + hi + 1) / 2 ≤ hi := by omega
      generalize (lo + hi + 1) / 2 = mid at *
      have hmm : mid * mid ≤ 100000 * 100000 := Nat.mul_le_mul (by omega) (by omega)
      by_cases hb : n < mid * mid
      · rw [if_pos (M_lt n (mid * mid) hb (by omega)), show (1 : Int64) = lN 1 from rfl, lN_sub (show 1 ≤ mid by omega)]
        refine hK _ ⟨lo, mid - 1, rfl, rfl, by omega, by omega, h3, by rw [show mid - 1 + 1 = mid by omega]; exact hb⟩ ?_
        show (lN (mid - 1)).toInt.toNat - (lN lo).toInt.toNat < (lN hi).toInt.toNat - (lN lo).toInt.toNat
        rw [pk_lT (by omega), pk_lT (by omega), pk_lT (by omega)]; omega
      · rw [if_neg (M_nlt n (mid * mid) (by omega) (by omega))]
        refine hK _ ⟨mid, hi, rfl, rfl, m2, h2, by omega, h4⟩ ?_
        show (lN hi).toInt.toNat - (lN mid).toInt.toNat < (lN hi).toInt.toNat - (lN lo).toInt.toNat
        rw [pk_lT (by omega), pk_lT (by omega), pk_lT (by omega)]; omega
  · exact ⟨0, 100000, rfl, rfl, by decide, by decide, Nat.zero_le _, by omega⟩
  · show (100000 : Int64).toInt.toNat - (0 : Int64).toInt.toNat < N
    have : (100000 : Int64).toInt.toNat = 100000 := rfl
    omega
def lat (n s d : Nat) : Nat → Bool := fun e => decide (e ∣ n ∧ (e ≤ s ∨ d * e < n))
theorem mpart_2 (N : Nat) (hN : 2 ^ 40 ≤ N) {n s : Nat} (h0 : 0 < n) (hn : n ≤ 10000000000) (hs1 : s * s ≤ n) (hs2 : n < (s + 1) * (s + 1)) (hs3 : s ≤ 100000) {v : Int32} (hv : (-1 : Int32) ≤ v) {ans : Int64} (ha : pAn n v ans) : ∀ (d f : Nat), d ≤ s → d < f → (∀ j, j < 2 ^ 31 → v = nI j → fb_ct (lat n s d) (n + 1) ≤ j) → l_X12_part_68 N (lN n) v f (nI (fb_ct (lat n s d) (n + 1)), lN d) = some ans := by
  intro d
  induction d with
  | zero =>
    intro f hd hf hle
    obtain ⟨f, rfl⟩ : ∃ z, f = z + 1 := ⟨f - 1, by omega⟩
    show s_X12_part_68 N (lN n) v (l_X12_part_68 N (lN n) v f) (nI (fb_ct (lat n s 0) (n + 1))) (lN 0) = _
    unfold s_X12_part_68
    rw [if_pos (M_le 0 0 (Nat.le_refl 0) (by decide))]
    have e : fb_ct (lat n s 0) (n + 1) = tau n := by
      rw [tau_ct]
      refine fb_ct_cong (fun k _ => ?_)
      unfold lat dvb
      have : (k ∣ n ∧ (k ≤ s ∨ 0 * k < n)) ↔ k ∣ n := ⟨fun h => h.1, fun h => ⟨h, Or.inr (by omega)⟩⟩
      simp only [this]
    rw [e] at hle ⊢
    unfold j_X12_part_117
    rcases idx_of hv with rfl | ⟨j, hj, rfl⟩
    · rw [if_neg (show ¬ (0 : Int32) ≤ -1 by decide), ha.1 rfl]
    · rw [if_pos (nI_ge0 hj), (ha.2 j hj rfl).2 (hle j hj rfl)]
  | succ d ih =>
    intro f hd hf hle
    obtain ⟨f, rfl⟩ : ∃ z, f = z + 1 := ⟨f - 1, by omega⟩
    show s_X12_part_68 N (lN n) v (l_X12_part_68 N (lN n) v f) (nI (fb_ct (lat n s (d + 1)) (n + 1))) (lN (d + 1)) = _
    unfold s_X12_part_68
    have hdd : (d + 1) * (d + 1) ≤ 100000 * 100000 := Nat.mul_le_mul (by omega) (by omega)
    rw [if_neg (M_nle (d + 1) 0 (by omega) (by omega)), if_neg (M_ne (d + 1) 0 (by omega) (by omega) (by decide)), lN_mul]
    simp only [xl]
    rw [show (1 : Int64) = lN 1 from rfl, lN_sub (show 1 ≤ d + 1 by omega), show d + 1 - 1 = d from rfl]
    -- what is new with d
    have same : (∀ e, e ∣ n → s < e → (d + 1) * e < n ∨ n ≤ d * e) → fb_ct (lat n s d) (n + 1) = fb_ct (lat n s (d + 1)) (n + 1) := by
      intro hh
      refine fb_ct_cong (fun k _ => ?_)
      unfold lat
      have : (k ∣ n ∧ (k ≤ s ∨ d * k < n)) ↔ (k ∣ n ∧ (k ≤ s ∨ (d + 1) * k < n)) := by
        constructor
        · intro ⟨a, b⟩
          refine ⟨a, ?_⟩
          rcases b with b | b
          · exact Or.inl b
          · rcases Nat.lt_or_ge s k with c | c
            · rcases hh k a c with q | q
              · exact Or.inr q
              · omega
            · exact Or.inl c
        · intro ⟨a, b⟩
          refine ⟨a, ?_⟩
          rcases b with b | b
          · exact Or.inl b
          · rw [Nat.succ_mul] at b; exact Or.inr (by omega)
      simp only [this]
    have key : ∀ e, e ∣ n → s < e → ¬ ((d + 1) * e < n) → d * e < n → e * (d + 1) = n := by
      intro e he hse h1 h2
      obtain ⟨c, hc⟩ := he
      have c1 : c ≤ d + 1 := by
        rcases Nat.lt_or_ge (d + 1) c with q | q
        · exfalso
          have h3 : e * (d + 1) < e * c := Nat.mul_lt_mul_of_pos_left q (by omega)
          rw [Nat.mul_comm] at h3
          omega
        · exact q
      have c2 : d < c := by
        rcases Nat.lt_or_ge d c with q | q
        · exact q
        · exfalso
          have h3 : e * c ≤ e * d := Nat.mul_le_mul_left e q
          rw [Nat.mul_comm e d] at h3
          omega
      rw [hc, show c = d + 1 by omega]
    by_cases hdv : n % (d + 1) = 0
    · rw [if_pos ((M_rem (by omega) (by omega) (by omega)).mpr hdv)]
      obtain ⟨c, hc⟩ := Nat.dvd_of_mod_eq_zero hdv
      by_cases hsq : (d + 1) * (d + 1) = n
      · rw [if_pos (by rw [hsq])]
        have e := same (fun e he hse => by
          rcases Nat.lt_or_ge ((d + 1) * e) n with q | q
          · exact Or.inl q
          · rcases Nat.lt_or_ge (d * e) n with q2 | q2
            · exfalso
              have h3 := key e he hse (by omega) q2
              have h4 : e = d + 1 := Nat.eq_of_mul_eq_mul_right (show 0 < d + 1 by omega) (h3.trans hsq.symm)
              omega
            · exact Or.inr q2)
        rw [← e] at hle ⊢
        exact ih f (by omega) (by omega) hle
      · rw [if_neg (M_ne ((d + 1) * (d + 1)) n hsq (by omega) (by omega))]
        have hcs : s < c := by
          rcases Nat.lt_or_ge s c with q | q
          · exact q
          · exfalso
            have h3 : (d + 1) * c ≤ s * s := Nat.mul_le_mul hd q
            have h4 : (d + 1) * c = s * s := by omega
            have h5 : s * s ≤ (d + 1) * s := by rw [← h4]; exact Nat.mul_le_mul_left _ q
            rcases Nat.eq_or_lt_of_le hd with r | r
            · rw [r] at hc h4 hsq; exact hsq (by omega)
            · have : (d + 1) * s < s * s := Nat.mul_lt_mul_of_pos_right r (by omega)
              omega
        have hdc : n / (d + 1) = c := by rw [hc]; exact Nat.mul_div_cancel_left c (by omega)
        have hcn : c ∣ n := ⟨d + 1, by rw [hc, Nat.mul_comm]⟩
        have hrk : fb_ct (dvb n) c = fb_ct (lat n s (d + 1)) (n + 1) := by
          have h6 := fb_ct_split (lat n s (d + 1)) c (n + 1 - c)
          rw [show c + (n + 1 - c) = n + 1 by have := Nat.le_of_dvd h0 hcn; omega] at h6
          have h7 : fb_ct (fun k => lat n s (d + 1) (c + k)) (n + 1 - c) = 0 := by
            rw [fb_ct_zero]
            intro k _
            refine decide_eq_false (fun ⟨_, q⟩ => ?_)
            rcases q with q | q
            · omega
            · have : (d + 1) * c ≤ (d + 1) * (c + k) := Nat.mul_le_mul_left _ (by omega)
              omega
          rw [h6, h7, Nat.add_zero]
          refine fb_ct_cong (fun k hk => ?_)
          unfold dvb lat
          have : (k ∣ n) ↔ (k ∣ n ∧ (k ≤ s ∨ (d + 1) * k < n)) := ⟨fun q => ⟨q, Or.inr (by rw [hc]; exact Nat.mul_lt_mul_of_pos_left hk (by omega))⟩, fun q => q.1⟩
          simp only [← this]
        have hnew : fb_ct (lat n s d) (n + 1) = fb_ct (lat n s (d + 1)) (n + 1) + 1 := by
          have hcle := Nat.le_of_dvd h0 hcn
          have h8 := fb_ct_upd (lat n s (d + 1)) true (i := c) (n := n + 1) (by omega)
          have h9 : lat n s (d + 1) c = false := decide_eq_false (fun ⟨_, q⟩ => by rcases q with q | q <;> omega)
          rw [h9] at h8
          have h10 : fb_ct (lat n s d) (n + 1) = fb_ct (fun k => if k = c then true else lat n s (d + 1) k) (n + 1) := by
            refine fb_ct_cong (fun k _ => ?_)
            by_cases e : k = c
            · subst e
              rw [if_pos rfl]
              refine decide_eq_true ⟨hcn, Or.inr ?_⟩
              have : (d + 1) * k = d * k + k := Nat.succ_mul d k
              omega
            · rw [if_neg e]
              unfold lat
              have : (k ∣ n ∧ (k ≤ s ∨ d * k < n)) ↔ (k ∣ n ∧ (k ≤ s ∨ (d + 1) * k < n)) := by
                constructor
                · intro ⟨a, b⟩
                  refine ⟨a, ?_⟩
                  rcases b with b | b
                  · exact Or.inl b
                  · rcases Nat.lt_or_ge s k with q | q
                    · right
                      rcases Nat.lt_or_ge ((d + 1) * k) n with q2 | q2
                      · exact q2
                      · exfalso
                        have h3 := key k a q (by omega) b
                        rw [hc, Nat.mul_comm] at h3
                        exact e (Nat.eq_of_mul_eq_mul_left (show 0 < d + 1 by omega) h3)
                    · exact Or.inl q
                · intro ⟨a, b⟩
                  refine ⟨a, ?_⟩
                  rcases b with b | b
                  · exact Or.inl b
                  · rw [Nat.succ_mul] at b; exact Or.inr (by omega)
              simp only [this]
          rw [h10]
          simp only [Bool.false_eq_true, if_false, if_true] at h8
          omega
        have hbnd : fb_ct (lat n s (d + 1)) (n + 1) ≤ 2304 := by
          rw [← hrk]
          refine Nat.le_trans ?_ (tau_le h0 hn)
          rw [tau_ct]
          exact fb_ct_mono _ (by have := Nat.le_of_dvd h0 hcn; omega)
        by_cases hm : nI (fb_ct (lat n s (d + 1)) (n + 1)) = v
        · rw [if_pos hm, pk_lDiv (by omega) (by omega) (by omega), hdc]
          rw [(ha.2 _ (by omega) hm.symm).1 c hcn hrk]
        · rw [if_neg hm, show nI (fb_ct (lat n s (d + 1)) (n + 1)) + (1 : Int32) = nI (fb_ct (lat n s (d + 1)) (n + 1) + 1) from nI_1 _, ← hnew]
          refine ih f (by omega) (by omega) (fun j hj e => ?_)
          have h11 := hle j hj e
          rw [hnew]
          rcases Nat.eq_or_lt_of_le h11 with q | q
          · exact absurd (by rw [q, e]) hm
          · exact q
    · rw [if_neg (fun h => hdv ((M_rem (by omega) (by omega) (by omega)).mp h))]
      have e := same (fun e he hse => by
        rcases Nat.lt_or_ge ((d + 1) * e) n with q | q
        · exact Or.inl q
        · rcases Nat.lt_or_ge (d * e) n with q2 | q2
          · exfalso
            have h3 := key e he hse (by omega) q2
            exact hdv (Nat.mod_eq_zero_of_dvd ⟨e, by rw [Nat.mul_comm, h3]⟩)
          · exact Or.inr q2)
      rw [← e] at hle ⊢
      exact ih f (by omega) (by omega) hle
theorem mpart_f (N : Nat) (hN : 2 ^ 40 ≤ N) {n : Nat} (h0 : 0 < n) (hn : n ≤ 10000000000) {v : Int32} (hv : (-1 : Int32) ≤ v) {ans : Int64} (ha : pAn n v ans) : l_X12_part_22 N (lN n) v N ((0 : Int32), (1 : Int64)) = some ans := by
  have h40 : (2 : Nat) ^ 40 = 1099511627776 := by decide
  unfold l_X12_part_22
  refine lp_eq _ (fun (z : Int32 × Int64) => ∃ d : Nat, z.1 = nI (fb_ct (dvb n) d) ∧ z.2 = lN d ∧ 1 ≤ d ∧ d ≤ 100001 ∧ (d - 1) * (d - 1) ≤ n ∧ ∀ j, j < 2 ^ 31 → v = nI j → fb_ct (dvb n) d ≤ j) (fun z => 200000 - z.2.toInt.toNat) ?_ N _ ?_ ?_
  · intro z K hI hK
    obtain ⟨z1, z2⟩ := z
    obtain ⟨d, e1, e2, hd1, hd2, hdp, hle⟩ := hI
    simp only at e1 e2
    subst e1; subst e2
    show s_X12_part_22 N (lN n) v K (nI (fb_ct (dvb n) d)) (lN d) = _
    unfold s_X12_part_22
    have hdd : d * d ≤ 100001 * 100001 := Nat.mul_le_mul hd2 hd2
    rw [lN_mul]
    by_cases hb : n < d * d
    · rw [if_pos (M_lt n (d * d) hb (by omega))]
      unfold j_X12_part_62
      obtain ⟨s, r1, r2, r3, r4⟩ := root_f N hN hn
      rw [r1, ob]
      have hsd : s = d - 1 := by
        rcases Nat.lt_trichotomy s (d - 1) with q | q | q
        · exfalso
          have : (s + 1) * (s + 1) ≤ (d - 1) * (d - 1) := Nat.mul_le_mul (by omega) (by omega)
          omega
        · exact q
        · exfalso
          have : d * d ≤ s * s := Nat.mul_le_mul (by omega) (by omega)
          omega
      have e : fb_ct (dvb n) d = fb_ct (lat n s s) (n + 1) := by
        rcases Nat.lt_or_ge (n + 1) d with q | q
        · exfalso
          have h1 : n + 1 ≤ d - 1 := by omega
          have h2 : (n + 1) * 1 ≤ (d - 1) * (d - 1) := Nat.mul_le_mul h1 (by omega)
          omega
        have h6 := fb_ct_split (lat n s s) d (n + 1 - d)
        rw [show d + (n + 1 - d) = n + 1 by omega] at h6
        have h7 : fb_ct (fun k => lat n s s (d + k)) (n + 1 - d) = 0 := by
          rw [fb_ct_zero]
          intro k _
          refine decide_eq_false (fun ⟨hx, q⟩ => ?_)
          rcases q with q | q
          · omega
          · obtain ⟨c, hc⟩ := hx
            have h8 : s + 1 ≤ c := by
              rcases Nat.lt_or_ge s c with q3 | q3
              · exact q3
              · exfalso
                have : (d + k) * c ≤ (d + k) * s := Nat.mul_le_mul_left _ q3
                rw [Nat.mul_comm (d + k) s] at this
                omega
            have h9 : (s + 1) * (s + 1) ≤ (d + k) * c := Nat.mul_le_mul (by omega) h8
            omega
        rw [h6, h7, Nat.add_zero]
        refine fb_ct_cong (fun k hk => ?_)
        unfold dvb lat
        have : (k ∣ n) ↔ (k ∣ n ∧ (k ≤ s ∨ s * k < n)) := ⟨fun q => ⟨q, Or.inl (by omega)⟩, fun q => q.1⟩
        simp only [← this]
      rw [e] at hle ⊢
      exact mpart_2 N hN h0 hn r2 r3 r4 hv ha s N (Nat.le_refl s) (by omega) hle
    · rw [if_neg (M_nlt n (d * d) (by omega) (by omega)), if_neg (M_ne d 0 (by omega) (by omega) (by decide))]
      have hd5 : d ≤ 100000 := by
        rcases Nat.lt_or_ge 100000 d with q | q
        · exfalso
          have : 100001 * 100001 ≤ d * d := Nat.mul_le_mul q q
          omega
        · exact q
      simp only [xl]
      rw [show lN d + (1 : Int64) = lN (d + 1) from lN_1 d]
      have hμ : 200000 - (lN (d + 1)).toInt.toNat < 200000 - (lN d).toInt.toNat := by
        rw [pk_lT (by omega), pk_lT (by omega)]; omega
      by_cases hdv : n % d = 0
      · have hdn := Nat.dvd_of_mod_eq_zero hdv
        rw [if_pos ((M_rem (by omega) (by omega) (by omega)).mpr hdv)]
        have hbnd : fb_ct (dvb n) d ≤ 2304 := by
          refine Nat.le_trans ?_ (tau_le h0 hn)
          rw [tau_ct]
          exact fb_ct_mono _ (by have := Nat.le_of_dvd h0 hdn; omega)
        by_cases hm : nI (fb_ct (dvb n) d) = v
        · rw [if_pos hm, (ha.2 _ (by omega) hm.symm).1 d hdn rfl]
        · rw [if_neg hm, show nI (fb_ct (dvb n) d) + (1 : Int32) = nI (fb_ct (dvb n) d + 1) from nI_1 _]
          have e : fb_ct (dvb n) (d + 1) = fb_ct (dvb n) d + 1 := by rw [fb_ct_succ, if_pos (dvb_t.mpr hdn)]
          refine hK _ ⟨d + 1, by rw [e], rfl, by omega, by omega, by rw [Nat.add_sub_cancel]; omega, fun j hj ej => ?_⟩ hμ
          have h11 := hle j hj ej
          rw [e]
          rcases Nat.eq_or_lt_of_le h11 with q | q
          · exact absurd (by rw [q, ej]) hm
          · exact q
      · rw [if_neg (fun h => hdv ((M_rem (by omega) (by omega) (by omega)).mp h))]
        have e : fb_ct (dvb n) (d + 1) = fb_ct (dvb n) d := by
          rw [fb_ct_succ, if_neg (fun q => hdv (Nat.mod_eq_zero_of_dvd (dvb_t.mp q)))]; rfl
        exact hK _ ⟨d + 1, by rw [e], rfl, by omega, by omega, by rw [Nat.add_sub_cancel]; omega, fun j hj ej => by rw [e]; exact hle j hj ej⟩ hμ
  · refine ⟨1, ?_, rfl, Nat.le_refl 1, by decide, by simp, fun j hj e => ?_⟩
    · have : fb_ct (dvb n) 1 = 0 := by
        rw [fb_ct_zero]
        intro k hk
        refine decide_eq_false (fun h => ?_)
        rw [show k = 0 by omega] at h
        have := Nat.eq_zero_of_zero_dvd h
        omega
      rw [this]; rfl
    · have : fb_ct (dvb n) 1 = 0 := by
        rw [fb_ct_zero]
        intro k hk
        refine decide_eq_false (fun h => ?_)
        rw [show k = 0 by omega] at h
        have := Nat.eq_zero_of_zero_dvd h
        omega
      omega
  · show 200000 - (1 : Int64).toInt.toNat < N
    omega
theorem part_eq (N : Nat) (hN : 2 ^ 40 ≤ N) (v1 : Int64) (v3 : Int32) {u : Int32} {num : Int64} {P : Nat → Int64} {T : Nat → Int32} {pk : Int32} {pn : Int64} {parts : Nat → Int64} {n_row n_list : Nat} {a_row a_list : Nat → Int32} (hS : SpOK u num P T) (hP : PaOK pk pn parts) (hL : LsOK n_row n_list a_list) : ∃ (ans : Int64) (dC dS : Nat), dC ≤ 8 ∧ dS ≤ 400000 ∧ (∀ MC MS, dC ≤ MC → dS ≤ MS → ∃ (u' : Int32) (num' : Int64) (pk' : Int32) (pn' : Int64) (n_row' : Nat) (a_row' : Nat → Int32) (n_list' : Nat) (a_list' : Nat → Int32) (P' : Nat → Int64) (T' : Nat → Int32) (parts' : Nat → Int64), f_X11_part N MC MS v1 v3 u num pk pn n_row a_row n_list a_list P T parts = some (ans, u', num', pk', pn', n_row', a_row', n_list', a_list', P', T', parts') ∧ SpOK u' num' P' T' ∧ PaOK pk' pn' parts' ∧ (LsOK n_row' n_list' a_list' ∧ n_row ≤ n_row' ∧ n_list ≤ n_list') ∧ (if n_row' = n_row then 0 else 1) + (if n_list' = n_list then 0 else 1) = dC ∧ (n_row' - n_row) + (n_list' - n_list) = dS) ∧ f_X12_part N v1 v3 = some ans := by
  have h40 : (2 : Nat) ^ 40 = 1099511627776 := by decide
  have z2 : ∀ a b : Nat, (0 : Nat) ≤ a ∧ 0 ≤ b := fun a b => ⟨Nat.zero_le _, Nat.zero_le _⟩
  have one : ¬ (1 : Int32) = 0 := by decide
  rcases isNum_f N v1 with ⟨n, n0, nb, rfl, i1, i2⟩ | ⟨i1, i2⟩
  · by_cases hv : (-1 : Int32) ≤ v3
    · obtain ⟨eC, eS⟩ := c3_eq hL
      have hle := cC3_le n_row n_list
      obtain ⟨fC, fS⟩ := c3_diff hL
      obtain ⟨ans, ha⟩ := pAn_ex n0 hv
      refine ⟨ans, cC3 n_row n_list, cS3 n_row n_list, by omega, by omega, fun MC MS h1 h2 => ?_, ?_⟩
      · obtain ⟨ar, al, p1, p2⟩ := prep3 N (by omega) hL (Nat.le_refl _) (Nat.le_refl _) a_row
        obtain ⟨w, P', T', s1, hw, hA⟩ := splitUp_f N (by omega) p2 hS n0 nb
        have hbu : 0 + cC3 n_row n_list ≤ MC ∧ 0 + cS3 n_row n_list ≤ MS := ⟨by omega, by omega⟩
        have hok : SpOK (nI w) (lN n) P' T' := ⟨w, n, rfl, rfl, hw, n0, nb, hA⟩
        rcases idx_of hv with rfl | ⟨j, hj, rfl⟩
        · refine ⟨nI w, lN n, pk, pn, 50001, ar, 9592, al, P', T', parts, ?_, hok, hP, ⟨LsOK.done (n_row := 0) (n_list := 0) p2, hL.le⟩, fC, fS⟩
          unfold f_X11_part
          rw [eC, eS, i1, if_pos (z2 MC MS), ob, if_neg one, if_pos hv, if_pos hbu, p1, ob, if_pos hbu, s1, ob, if_pos rfl, if_pos hbu, howManyParts_f N (by omega) hw hA, ob, if_pos hbu, ha.1 rfl]
        · obtain ⟨pa, q1, q2⟩ := partAt_f N hN hw n0 nb hj hA hP ha
          refine ⟨nI w, lN n, nI (tau n), lN n, 50001, ar, 9592, al, P', T', pa, ?_, hok, Or.inr ⟨n, n0, nb, rfl, rfl, q2⟩, ⟨LsOK.done (n_row := 0) (n_list := 0) p2, hL.le⟩, fC, fS⟩
          unfold f_X11_part
          rw [eC, eS, i1, if_pos (z2 MC MS), ob, if_neg one, if_pos hv, if_pos hbu, p1, ob, if_pos hbu, s1, ob, if_neg (nI_nem hj), if_pos hbu, q1, ob, if_pos hbu]
      · unfold f_X12_part
        rw [i2, ob, if_neg one, if_pos hv, mpart_f N hN n0 nb hv ha]
    · refine ⟨-1, 0, 0, by decide, by decide, fun MC MS _ _ => ⟨u, num, pk, pn, n_row, a_row, n_list, a_list, P, T, parts, ?_, hS, hP, ⟨hL, Nat.le_refl _, Nat.le_refl _⟩, by simp, by simp⟩, ?_⟩
      · unfold f_X11_part
        rw [i1, if_pos (z2 MC MS), ob, if_neg one, if_neg hv, if_pos (z2 MC MS)]
      · unfold f_X12_part
        rw [i2, ob, if_neg one, if_neg hv]
  · refine ⟨-1, 0, 0, by decide, by decide, fun MC MS _ _ => ⟨u, num, pk, pn, n_row, a_row, n_list, a_list, P, T, parts, ?_, hS, hP, ⟨hL, Nat.le_refl _, Nat.le_refl _⟩, by simp, by simp⟩, ?_⟩
    · unfold f_X11_part
      rw [i1, if_pos (z2 MC MS), ob, if_pos rfl, if_pos (z2 MC MS)]
    · unfold f_X12_part
      rw [i2, ob, if_pos rfl]
