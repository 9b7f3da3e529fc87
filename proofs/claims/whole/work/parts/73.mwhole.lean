/-! the model's wholly: sums of a stretch, then a pick -/
def hsF (n e : Nat) : Nat := if e ∣ n ∧ e * e ≤ n then (if e * e = n then e else e + n / e) else 0
def hs (n D : Nat) : Nat := fb_sm (hsF n) D
def hsG (n D d : Nat) : Nat := if d ∣ n ∧ ((d * d ≤ n ∧ d < D) ∨ (n < d * d ∧ n / d < D)) then d else 0
theorem hs_eq {n : Nat} (h0 : 0 < n) : ∀ D, hs n D = fb_sm (hsG n D) (n + 1)
  | 0 => by
    have : fb_sm (hsG n 0) (n + 1) = fb_sm (fun _ => 0) (n + 1) := fb_sm_cong (fun k _ => by
      unfold hsG
      rw [if_neg (fun q => by
        rcases q.2 with w | w
        · omega
        · exact Nat.not_lt_zero _ w.2)])
    rw [this, fb_sm_const]
    rfl
  | D + 1 => by
    have ih := hs_eq h0 D
    show hs n D + hsF n D = _
    rw [ih]
    by_cases c : D ∣ n ∧ D * D ≤ n
    · have hD0 : 0 < D := Nat.pos_of_dvd_of_pos c.1 h0
      obtain ⟨q, hq⟩ := c.1
      have hnD : n / D = q := by rw [hq]; exact Nat.mul_div_cancel_left q hD0
      have hDq : D ≤ q := Nat.le_of_mul_le_mul_left (by rw [← hq]; exact c.2) hD0
      have hDn : D < n + 1 := by
        have : D * 1 ≤ D * D := Nat.mul_le_mul_left D hD0
        omega
      have hqn : q < n + 1 := by
        have : q * 1 ≤ q * D := Nat.mul_le_mul_left q hD0
        rw [Nat.mul_comm] at hq
        omega
      have hq0 : 0 < q := by omega
      have hnq : n / q = D := by rw [hq]; exact Nat.mul_div_cancel D hq0
      have gD : hsG n D D = 0 := by unfold hsG; rw [if_neg (fun w => by rcases w.2 with v | v <;> omega)]
      have gq : hsG n D q = 0 := by
        unfold hsG
        rw [if_neg]
        intro w
        rcases w.2 with v | v
        · omega
        · rw [hnq] at v; omega
      unfold hsF
      rw [if_pos c]
      -- where d is neither D nor q nothing changes
      have oth : ∀ d, d ≠ D → d ≠ q → hsG n (D + 1) d = hsG n D d := by
        intro d h1 h2
        unfold hsG
        by_cases w : d ∣ n ∧ ((d * d ≤ n ∧ d < D) ∨ (n < d * d ∧ n / d < D))
        · rw [if_pos w, if_pos ⟨w.1, by rcases w.2 with v | v; exact Or.inl ⟨v.1, by omega⟩; exact Or.inr ⟨v.1, by omega⟩⟩]
        · rw [if_neg w, if_neg]
          intro v
          apply w
          refine ⟨v.1, ?_⟩
          rcases v.2 with x | x
          · exact Or.inl ⟨x.1, by omega⟩
          · refine Or.inr ⟨x.1, ?_⟩
            rcases Nat.lt_or_ge (n / d) D with y | y
            · exact y
            · exfalso
              have e1 : n / d = D := by omega
              obtain ⟨t, ht⟩ := v.1
              have hd0 : 0 < d := Nat.pos_of_dvd_of_pos v.1 h0
              have e2 : n / d = t := by rw [ht]; exact Nat.mul_div_cancel_left t hd0
              have e3 : t = D := by omega
              subst e3
              have : d * t = t * q := by rw [← ht]; exact hq
              rw [Nat.mul_comm d t] at this
              exact h2 (Nat.eq_of_mul_eq_mul_left hD0 this)
      by_cases sq : D * D = n
      · rw [if_pos sq]
        have eq1 : q = D := by
          have : D * q = D * D := by omega
          exact Nat.eq_of_mul_eq_mul_left hD0 this
        have hu := fb_sm_upd (hsG n D) D hDn
        rw [gD] at hu
        have : fb_sm (hsG n (D + 1)) (n + 1) = fb_sm (fun k => if k = D then D else hsG n D k) (n + 1) := fb_sm_cong (fun k _ => by
          by_cases e : k = D
          · rw [if_pos e, e]
            unfold hsG
            rw [if_pos ⟨c.1, Or.inl ⟨c.2, by omega⟩⟩]
          · rw [if_neg e]
            exact oth k e (by rw [eq1]; exact e))
        omega
      · rw [if_neg sq, hnD]
        have hne : D ≠ q := fun e => sq (by rw [hq, ← e])
        have hlt : n < q * q := by
          have : D * q < q * q := Nat.mul_lt_mul_of_pos_right (by omega) hq0
          omega
        have hu := fb_sm_upd (hsG n D) D hDn
        rw [gD] at hu
        have hv := fb_sm_upd (fun k => if k = D then D else hsG n D k) q hqn
        rw [if_neg (fun e => hne e.symm), gq] at hv
        have : fb_sm (hsG n (D + 1)) (n + 1) = fb_sm (fun k => if k = q then q else if k = D then D else hsG n D k) (n + 1) := fb_sm_cong (fun k _ => by
          by_cases e : k = q
          · rw [if_pos e, e]
            unfold hsG
            rw [if_pos ⟨by rw [hq]; exact Nat.dvd_mul_left q D, Or.inr ⟨hlt, by rw [hnq]; omega⟩⟩]
          · rw [if_neg e]
            by_cases e2 : k = D
            · rw [if_pos e2, e2]
              unfold hsG
              rw [if_pos ⟨c.1, Or.inl ⟨c.2, by omega⟩⟩]
            · rw [if_neg e2]
              exact oth k e2 e)
        omega
    · have : hsF n D = 0 := by unfold hsF; rw [if_neg c]
      rw [this, Nat.add_zero]
      refine fb_sm_cong (fun d _ => ?_)
      unfold hsG
      by_cases w : d ∣ n ∧ ((d * d ≤ n ∧ d < D) ∨ (n < d * d ∧ n / d < D))
      · rw [if_pos w, if_pos ⟨w.1, by rcases w.2 with v | v; exact Or.inl ⟨v.1, by omega⟩; exact Or.inr ⟨v.1, by omega⟩⟩]
      · rw [if_neg w, if_neg]
        intro v
        apply w
        refine ⟨v.1, ?_⟩
        rcases v.2 with x | x
        · refine Or.inl ⟨x.1, ?_⟩
          rcases Nat.lt_or_ge d D with y | y
          · exact y
          · exfalso
            have e : d = D := by omega
            subst e
            exact c ⟨v.1, x.1⟩
        · refine Or.inr ⟨x.1, ?_⟩
          rcases Nat.lt_or_ge (n / d) D with y | y
          · exact y
          · exfalso
            have e1 : n / d = D := by omega
            obtain ⟨t, ht⟩ := v.1
            have hd0 : 0 < d := Nat.pos_of_dvd_of_pos v.1 h0
            have e2 : n / d = t := by rw [ht]; exact Nat.mul_div_cancel_left t hd0
            have e3 : t = D := by omega
            subst e3
            refine c ⟨by rw [ht]; exact Nat.dvd_mul_left t d, ?_⟩
            have htd : t ≤ d := by
              rcases Nat.lt_or_ge d t with z | z
              · exfalso
                have : d * d ≤ d * t := Nat.mul_le_mul_left d (Nat.le_of_lt z)
                omega
              · exact z
            rw [ht]
            exact Nat.mul_le_mul htd (Nat.le_refl t)
theorem hs_end {n D : Nat} (h0 : 0 < n) (h : n < D * D) : hs n D = sg n := by
  rw [hs_eq h0]
  show _ = fb_sm (fun d => if d ∣ n then d else 0) (n + 1)
  refine fb_sm_cong (fun d _ => ?_)
  unfold hsG
  by_cases c : d ∣ n
  · rw [if_pos c, if_pos]
    refine ⟨c, ?_⟩
    rcases Nat.lt_or_ge n (d * d) with w | w
    · right
      refine ⟨w, ?_⟩
      obtain ⟨t, ht⟩ := c
      have hd0 : 0 < d := by
        rcases Nat.eq_zero_or_pos d with q | q
        · subst q; omega
        · exact q
      have e2 : n / d = t := by rw [ht]; exact Nat.mul_div_cancel_left t hd0
      rw [e2]
      rcases Nat.lt_or_ge t D with y | y
      · exact y
      · exfalso
        have h1 : D * D ≤ t * t := Nat.mul_le_mul y y
        have h2 : t ≤ d := by
          rcases Nat.lt_or_ge d t with z | z
          · exfalso
            have : d * d ≤ d * t := Nat.mul_le_mul_left d (Nat.le_of_lt z)
            omega
          · exact z
        have h3 : t * t ≤ d * t := Nat.mul_le_mul_right t h2
        omega
    · left
      refine ⟨w, ?_⟩
      rcases Nat.lt_or_ge d D with y | y
      · exact y
      · exfalso
        have h1 : D * D ≤ d * d := Nat.mul_le_mul y y
        omega
  · rw [if_neg c, if_neg (fun q => c q.1)]
theorem hs_s (n D : Nat) : hs n (D + 1) = hs n D + hsF n D := rfl
theorem str_in (N : Nat) (hN : 2 ^ 40 ≤ N) {a e : Nat} (ha1 : 1 ≤ a) (ha : a ≤ 1000000) (he1 : 1 ≤ e) (he : e < 2000) (K : (Int64 × (Nat → Int64)) → Option (Nat → Int64)) (post : Option (Nat → Int64) → Prop) (hK : ∀ s : Nat → Int64, (∀ k, k < 1000 → s k = lN (hs (a + k) (e + 1))) → post (K (lN (e + 1), s))) {s0 : Nat → Int64} (hs0 : ∀ k, k < 1000 → s0 k = lN (hs (a + k) e)) {st : Nat} (hst1 : e ∣ st) (hst2 : e * e ≤ st) (hst3 : a ≤ st) (hst4 : st ≤ 4100000) (hst5 : ∀ n, a ≤ n → n < st → ¬ (e ∣ n ∧ e * e ≤ n)) : post (l_X12_layStretch_66 N K (lN a) (lN e) N (lN st, s0)) := by
  have h40 : (2 : Nat) ^ 40 = 1099511627776 := by decide
  unfold l_X12_layStretch_66
  refine lp_post (I := fun (z : Int64 × (Nat → Int64)) => ∃ x : Nat, z.1 = lN x ∧ x ≤ 4200000 ∧ e ∣ x ∧ e * e ≤ x ∧ a ≤ x ∧ ∀ k, k < 1000 → z.2 k = lN (hs (a + k) (if a + k < x then e + 1 else e))) (μ := fun z => 5000000 - z.1.toInt.toNat) (post := post) ?_ N _ ?_ ?_
  · intro z K2 hI hK2
    obtain ⟨y1, y2⟩ := z
    obtain ⟨x, e1, hx, hdx, hex, hax, hy⟩ := hI
    simp only at e1 hy
    subst e1
    show post (s_X12_layStretch_66 N K (lN a) (lN e) K2 (lN x) y2)
    unfold s_X12_layStretch_66
    rw [show (1000 : Int64) = lN 1000 from rfl, lN_add]
    by_cases c : a + 1000 ≤ x
    · rw [if_pos (M_le (a + 1000) x c (by omega)), xl, lN_1]
      exact hK _ (fun k hk => by rw [hy k hk, if_pos (by omega)])
    · rw [if_neg (M_nle (a + 1000) x (by omega) (by omega)), lN_sub hax, lN_i, xl]
      rw [if_neg (L_in (x - a) 1000 (by omega) (by omega)), nI_clamp (by omega)]
      have hxa : a + (x - a) = x := by omega
      have hyx := hy (x - a) (by omega)
      rw [hxa, if_neg (Nat.lt_irrefl x)] at hyx
      rw [hyx, lN_mul]
      have go : ∀ s : Nat, s = hsF x e → post (j_X12_layStretch_107 N K2 (lN e) (lN x) (lN s) (lN (hs x e)) (nI (x - a)) y2) := by
        intro s hs
        unfold j_X12_layStretch_107
        rw [lN_add, xl, if_neg (L_in (x - a) 1000 (by omega) (by omega)), nI_clamp (by omega), lN_add, xl, hs, ← hs_s]
        have hbt : ∀ j, e ∣ j → x < j → j < x + e → False := by
          intro j hj h1 h2
          have : e ∣ j - x := Nat.dvd_sub hj hdx
          have := Nat.le_of_dvd (by omega) this
          omega
        refine hK2 _ ⟨x + e, rfl, by omega, Nat.dvd_add hdx (Nat.dvd_refl e), by omega, by omega, fun k hk => ?_⟩ ?_
        · show vp_updL y2 (x - a) _ k = _
          by_cases q : k = x - a
          · subst q
            rw [pk_uLs, hxa, if_pos (by omega)]
          · rw [pk_uLn q, hy k hk]
            by_cases w : a + k < x
            · rw [if_pos w, if_pos (by omega)]
            · rw [if_neg w]
              by_cases w2 : a + k < x + e
              · rw [if_pos w2, hs_s]
                have : hsF (a + k) e = 0 := by
                  unfold hsF
                  rw [if_neg (fun v => hbt (a + k) v.1 (by omega) w2)]
                rw [this, Nat.add_zero]
              · rw [if_neg w2]
        · show 5000000 - (lN (x + e)).toInt.toNat < 5000000 - (lN x).toInt.toNat
          rw [pk_lT (by omega), pk_lT (by omega)]
          simp only [Int.toNat_natCast]
          omega
      by_cases sq : e * e = x
      · rw [if_pos (by rw [sq])]
        exact go e (by unfold hsF; rw [if_pos ⟨hdx, hex⟩, if_pos sq])
      · have he2 : e * e < 2 ^ 63 := by omega
        rw [if_neg (M_ne (e * e) x sq he2 (by omega)), if_neg (M_ne e 0 (by omega) (by omega) (by decide)), pk_lDiv (by omega) (by omega) (by omega), lN_add]
        exact go (e + x / e) (by unfold hsF; rw [if_pos ⟨hdx, hex⟩, if_neg sq])
  · refine ⟨st, rfl, by omega, hst1, hst2, hst3, fun k hk => ?_⟩
    show s0 k = _
    rw [hs0 k hk]
    by_cases w : a + k < st
    · rw [if_pos w, hs_s]
      have : hsF (a + k) e = 0 := by
        unfold hsF
        rw [if_neg (hst5 (a + k) (by omega) w)]
      rw [this, Nat.add_zero]
    · rw [if_neg w]
  · show 5000000 - _ < N
    omega
theorem str_f (N : Nat) (hN : 2 ^ 40 ≤ N) {a : Nat} (ha1 : 1 ≤ a) (ha : a ≤ 1000000) (s0 : Nat → Int64) : ∃ s, f_X12_layStretch N (lN a) s0 = some s ∧ ∀ k, k < 1000 → s k = lN (sg (a + k)) := by
  have h40 : (2 : Nat) ^ 40 = 1099511627776 := by decide
  unfold f_X12_layStretch l_X12_layStretch_2
  refine lp_post (I := fun (z : Int32 × (Nat → Int64)) => ∃ x : Nat, z.1 = nI x ∧ x ≤ 1000 ∧ ∀ k, k < x → z.2 k = 0) (μ := fun z => 1001 - z.1.toNatClampNeg) (post := fun r => ∃ s : Nat → Int64, r = some s ∧ ∀ k, k < 1000 → s k = lN (sg (a + k))) ?_ N _ ?_ ?_
  · intro z K hI hK
    obtain ⟨y1, y2⟩ := z
    obtain ⟨x, e1, hx, hy⟩ := hI
    simp only at e1 hy
    subst e1
    show ∃ s : Nat → Int64, s_X12_layStretch_2 N (lN a) K (nI x) y2 = some s ∧ _
    unfold s_X12_layStretch_2
    by_cases c : 1000 ≤ x
    · rw [if_pos (L_le 1000 x c (by omega))]
      unfold j_X12_layStretch_22 l_X12_layStretch_24
      refine lp_post (I := fun (z : Int64 × (Nat → Int64)) => ∃ e : Nat, z.1 = lN e ∧ 1 ≤ e ∧ e ≤ 1002 ∧ ∀ k, k < 1000 → z.2 k = lN (hs (a + k) e)) (μ := fun z => 2000 - z.1.toInt.toNat) (post := fun r => ∃ s : Nat → Int64, r = some s ∧ ∀ k, k < 1000 → s k = lN (sg (a + k))) ?_ N _ ?_ ?_
      · intro z K2 hI2 hK2
        obtain ⟨t1, t2⟩ := z
        obtain ⟨e, e1, he1, he2, ht⟩ := hI2
        simp only at e1 ht
        subst e1
        show ∃ s : Nat → Int64, s_X12_layStretch_24 N (lN a) K2 (lN e) t2 = some s ∧ _
        unfold s_X12_layStretch_24
        have hee : e * e ≤ 1002 * 1002 := Nat.mul_le_mul he2 he2
        rw [show (1000 : Int64) = lN 1000 from rfl, lN_add, lN_mul]
        by_cases c2 : a + 1000 ≤ e * e
        · rw [if_pos (M_le (a + 1000) (e * e) c2 (by omega))]
          exact ⟨t2, rfl, fun k hk => by rw [ht k hk, hs_end (by omega) (by omega)]⟩
        · have he3 : e ≤ 1001 := by
            rcases Nat.lt_or_ge 1001 e with q | q
            · exfalso
              have : 1002 * 1002 ≤ e * e := Nat.mul_le_mul q q
              omega
            · exact q
          rw [if_neg (M_nle (a + 1000) (e * e) (by omega) (by omega)), if_neg (M_ne e 0 (by omega) (by omega) (by decide))]
          have hr : a % e < e := Nat.mod_lt a (by omega)
          rw [pk_lRem (show a < 2 ^ 63 by omega) (by omega) (by omega), lN_sub (by omega), pk_lRem (by omega) (by omega) (by omega), lN_add, xl]
          have hx2 : (e - a % e) % e < e := Nat.mod_lt _ (by omega)
          generalize hfd : a + (e - a % e) % e = fs at *
          have hdv : e ∣ fs := by
            rw [← hfd]
            have h1 : a = e * (a / e) + a % e := (Nat.div_add_mod a e).symm
            rcases Nat.eq_zero_or_pos (a % e) with q | q
            · rw [q, Nat.sub_zero, Nat.mod_self, Nat.add_zero]
              exact Nat.dvd_of_mod_eq_zero q
            · rw [Nat.mod_eq_of_lt (by omega)]
              have : a + (e - a % e) = e * (a / e + 1) := by rw [Nat.mul_succ]; omega
              rw [this]; exact Nat.dvd_mul_right _ _
          have hgap : ∀ n, a ≤ n → n < fs → ¬ e ∣ n := by
            intro n h1 h2 h3
            have : e ∣ fs - n := Nat.dvd_sub hdv h3
            have := Nat.le_of_dvd (by omega) this
            omega
          have fin : ∀ st : Nat, e ∣ st → e * e ≤ st → a ≤ st → st ≤ 4100000 → (∀ n, a ≤ n → n < st → ¬ (e ∣ n ∧ e * e ≤ n)) → ∃ s : Nat → Int64, j_X12_layStretch_64 N K2 (lN a) (lN e) (lN st) t2 = some s ∧ ∀ k, k < 1000 → s k = lN (sg (a + k)) := by
            intro st h1 h2 h3 h4 h5
            unfold j_X12_layStretch_64
            exact str_in N hN ha1 ha he1 (by omega) K2 (fun r => ∃ s : Nat → Int64, r = some s ∧ ∀ k, k < 1000 → s k = lN (sg (a + k))) (fun s hs => hK2 _ ⟨e + 1, rfl, by omega, by omega, hs⟩ (by
              show 2000 - (lN (e + 1)).toInt.toNat < 2000 - (lN e).toInt.toNat
              rw [pk_lT (by omega), pk_lT (by omega)]
              simp only [Int.toNat_natCast]
              omega)) ht h1 h2 h3 h4 h5
          by_cases c3 : e * e ≤ fs
          · rw [if_pos (M_le (e * e) fs c3 (by omega))]
            exact fin fs hdv c3 (by omega) (by omega) (fun n h1 h2 h3 => hgap n h1 h2 h3.1)
          · rw [if_neg (M_nle (e * e) fs (by omega) (by omega))]
            exact fin (e * e) (Nat.dvd_mul_right e e) (Nat.le_refl _) (by omega) (by omega) (fun n h1 h2 h3 => by omega)
      · refine ⟨1, rfl, by decide, by decide, fun k hk => ?_⟩
        show y2 k = _
        rw [hy k (by omega), hs_s]
        have : hsF (a + k) 0 = 0 := by
          unfold hsF
          rw [if_neg (fun q => by have := Nat.eq_zero_of_zero_dvd q.1; omega)]
        rw [this]; rfl
      · show 2000 - _ < N
        omega
    · rw [if_neg (L_nle 1000 x (by omega) (by decide)), if_neg (L_in x 1000 (by omega) (by omega)), nI_clamp (by omega), xl, nI_1]
      refine hK _ ⟨x + 1, rfl, by omega, fun k hk => ?_⟩ ?_
      · show vp_updL y2 x _ k = _
        by_cases q : k = x
        · rw [q, pk_uLs]
        · rw [pk_uLn q]; exact hy k (by omega)
      · show 1001 - (nI (x + 1)).toNatClampNeg < 1001 - (nI x).toNatClampNeg
        rw [nI_clamp (by omega), nI_clamp (by omega)]; omega
  · exact ⟨0, rfl, by decide, fun k hk => by omega⟩
  · show 1001 - _ < N
    omega
theorem mwhole_f (N : Nat) (hN : 2 ^ 40 ≤ N) {m : Nat} (hm1 : 1 ≤ m) (hm : m ≤ 1000000) {i : Int32} (hv : (-1 : Int32) ≤ i) (s0 : Nat → Int64) : ∃ s, l_X12_wholly_24 N (nI m) i N ((0 : Int32), (1 : Int64), s0) = some (pkA (sgp m) i ((m + 999) / 1000 * 1000) 1 0, s) := by
  have h40 : (2 : Nat) ^ 40 = 1099511627776 := by decide
  generalize hA : pkA (sgp m) i ((m + 999) / 1000 * 1000) 1 0 = A
  generalize hb : (m + 999) / 1000 * 1000 = b at *
  have hbm : m ≤ b ∧ b < m + 1000 ∧ b % 1000 = 0 := by omega
  unfold l_X12_wholly_24
  refine lp_post (I := fun (z : Int32 × Int64 × (Nat → Int64)) => ∃ c t : Nat, z.1 = nI c ∧ z.2.1 = lN (1000 * t + 1) ∧ 1000 * t ≤ b ∧ pkA (sgp m) i (b - 1000 * t) (1000 * t + 1) c = A) (μ := fun z => 2000000 - z.2.1.toInt.toNat) (post := fun r => ∃ s : Nat → Int64, r = some (A, s)) ?_ N _ ?_ ?_
  · intro z K hI hK
    obtain ⟨y1, y2, y3⟩ := z
    obtain ⟨c, t, e1, e2, ht, hp⟩ := hI
    simp only at e1 e2
    subst e1
    subst e2
    show ∃ s : Nat → Int64, s_X12_wholly_24 N (nI m) i K (nI c) (lN (1000 * t + 1)) y3 = some (A, s)
    unfold s_X12_wholly_24
    rw [nI_i64 (by omega)]
    by_cases ce : m < 1000 * t + 1
    · rw [if_pos (M_lt m (1000 * t + 1) ce (by omega))]
      have hbt : b - 1000 * t = 0 := by omega
      rw [hbt] at hp
      unfold pkA at hp
      unfold j_X12_wholly_95
      by_cases hi : i = -1
      · rw [if_neg (fun q => (mend hv).mp q hi)]
        rw [if_pos hi] at hp
        rw [hp]; exact ⟨_, rfl⟩
      · rw [if_pos ((mend hv).mpr hi)]
        rw [if_neg hi] at hp
        rw [hp]; exact ⟨_, rfl⟩
    · rw [if_neg (M_nlt m (1000 * t + 1) (by omega) (by omega))]
      obtain ⟨s, f1, f2⟩ := str_f N hN (a := 1000 * t + 1) (by omega) (by omega) y3
      rw [f1, ob]
      unfold l_X12_wholly_41
      refine lp_post (I := fun (z : Int32 × Int32) => ∃ c k : Nat, z.1 = nI c ∧ z.2 = nI k ∧ k ≤ 1000 ∧ pkA (sgp m) i (b - (1000 * t + k)) (1000 * t + k + 1) c = A) (μ := fun z => 1001 - z.2.toNatClampNeg) (post := fun r => ∃ s : Nat → Int64, r = some (A, s)) ?_ N _ ?_ ?_
      · intro z K2 hI2 hK2
        obtain ⟨t1, t2⟩ := z
        obtain ⟨c, k, e1, e2, hk, hp⟩ := hI2
        simp only at e1 e2
        subst e1
        subst e2
        show ∃ s2 : Nat → Int64, s_X12_wholly_41 N K (nI m) i (lN (1000 * t + 1)) s K2 (nI c) (nI k) = some (A, s2)
        unfold s_X12_wholly_41
        by_cases ck : 1000 ≤ k
        · rw [if_pos (L_le 1000 k ck (by omega)), show (1000 : Int64) = lN 1000 from rfl, lN_add, xl]
          have : k = 1000 := by omega
          subst this
          refine hK _ ⟨c, t + 1, rfl, ?_, by omega, ?_⟩ ?_
          · show lN _ = lN _
            rw [show 1000 * t + 1 + 1000 = 1000 * (t + 1) + 1 by omega]
          · rw [show 1000 * (t + 1) = 1000 * t + 1000 by omega]; exact hp
          · show 2000000 - (lN (1000 * t + 1 + 1000)).toInt.toNat < 2000000 - (lN (1000 * t + 1)).toInt.toNat
            rw [pk_lT (by omega), pk_lT (by omega)]
            simp only [Int.toNat_natCast]
            omega
        · rw [if_neg (L_nle 1000 k (by omega) (by decide)), if_neg (L_in k 1000 (by omega) (by omega)), nI_clamp (by omega), f2 k (by omega), nI_i64 (by omega)]
          have hμ : 1001 - (nI (k + 1)).toNatClampNeg < 1001 - (nI k).toNatClampNeg := by rw [nI_clamp (by omega), nI_clamp (by omega)]; omega
          obtain ⟨d, hd⟩ : ∃ d, b - (1000 * t + k) = d + 1 := ⟨b - (1000 * t + k) - 1, by omega⟩
          have hd2 : b - (1000 * t + (k + 1)) = d := by omega
          rw [hd] at hp
          unfold pkA at hp
          have hsl := sg_le (n := 1000 * t + 1 + k) (by omega) (by omega)
          have hq : (lN (sg (1000 * t + 1 + k)) = lN m) ↔ sg (1000 * t + 1 + k) = m := pk_lEQ (by omega) (by omega)
          have hsg : sgp m (1000 * t + k + 1) = decide (sg (1000 * t + 1 + k) = m) := by
            unfold sgp
            rw [show 1000 * t + k + 1 = 1000 * t + 1 + k by omega, decide_eq_true (show 1 ≤ 1000 * t + 1 + k by omega), Bool.true_and]
          by_cases cq : sg (1000 * t + 1 + k) = m
          · rw [if_pos (hq.mpr cq)]
            rw [hsg, if_pos (by simp [cq])] at hp
            by_cases ci : nI c = i
            · rw [if_pos ci]
              rw [if_pos ci] at hp
              unfold j_X12_wholly_67
              rw [nI_i64 (by omega), lN_add, lN_i, show 1000 * t + 1 + k = 1000 * t + k + 1 by omega, hp]
              exact ⟨_, rfl⟩
            · rw [if_neg ci, xl, xl, nI_1, nI_1]
              rw [if_neg ci] at hp
              refine hK2 _ ⟨c + 1, k + 1, rfl, rfl, by omega, ?_⟩ hμ
              rw [hd2]; exact hp
          · rw [if_neg (fun w => cq (hq.mp w)), xl, nI_1]
            rw [hsg, if_neg (by simp [cq])] at hp
            refine hK2 _ ⟨c, k + 1, rfl, rfl, by omega, ?_⟩ hμ
            rw [hd2]; exact hp
      · exact ⟨c, 0, rfl, rfl, by decide, hp⟩
      · show 1001 - _ < N
        omega
  · refine ⟨0, 0, rfl, rfl, Nat.zero_le _, ?_⟩
    rw [Nat.mul_zero, Nat.sub_zero]
    exact hA
  · show 2000000 - _ < N
    omega
