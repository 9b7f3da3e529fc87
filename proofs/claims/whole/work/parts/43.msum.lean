/-! the reference's sums -/
def MF (c : Nat) (Q : Nat → Nat) (n : Nat) : Prop := (∀ i, i < c → pr (Q i)) ∧ (∀ i j, i ≤ j → j < c → Q i ≤ Q j) ∧ prodf Q c = n
theorem prodf_pos {f : Nat → Nat} : ∀ {u : Nat}, (∀ i, i < u → 0 < f i) → 0 < prodf f u
  | 0, _ => Nat.one_pos
  | u + 1, h => by rw [prodf]; exact Nat.mul_pos (prodf_pos (fun i hi => h i (by omega))) (h u (by omega))
theorem prodf_two {f : Nat → Nat} : ∀ {u : Nat}, (∀ i, i < u → 2 ≤ f i) → 2 ^ u ≤ prodf f u
  | 0, _ => Nat.le_refl 1
  | u + 1, h => by rw [prodf, Nat.pow_succ]; exact Nat.mul_le_mul (prodf_two (fun i hi => h i (by omega))) (h u (by omega))
theorem prodf_free {f : Nat → Nat} {q : Nat} (hq : pr q) : ∀ {u : Nat}, (∀ i, i < u → pr (f i) ∧ f i ≠ q) → ¬ q ∣ prodf f u
  | 0, _ => fun hd => by
    have h1 := Nat.le_of_dvd (show 0 < 1 from Nat.one_pos) (show q ∣ 1 from hd)
    have := hq.1
    omega
  | u + 1, h => fun hd => by
    rw [prodf] at hd
    rcases pr_mul hq hd with h1 | h1
    · exact prodf_free hq (fun i hi => h i (by omega)) h1
    · exact (h u (by omega)).2 (pr_eq hq (h u (by omega)).1 h1).symm
theorem few33 {f : Nat → Nat} {c r n : Nat} (h : ∀ i, i < c → 2 ≤ f i) (hr : 0 < r) (hn : prodf f c * r ≤ n) (hb : n ≤ 10000000000) : c ≤ 33 := by
  rcases Nat.lt_or_ge 33 c with q | q
  · exfalso
    have h1 := prodf_two h
    have h2 : 2 ^ 34 ≤ 2 ^ c := Nat.pow_le_pow_right (by decide) q
    have h3 : prodf f c ≤ prodf f c * r := Nat.le_mul_of_pos_right _ hr
    have : (2 : Nat) ^ 34 = 17179869184 := by decide
    omega
  · exact q
/-- the reference's list of primes: the end -/
theorem layPrimes_69 (N : Nat) {rr c n0 : Nat} {Q : Nat → Nat} {arr : Nat → Int64} (hQ : ∀ i, i < c → pr (Q i)) (hm : ∀ i j, i ≤ j → j < c → Q i ≤ Q j) (hv : ∀ i, i < c → arr i = lN (Q i)) (hd : prodf Q c * rr = n0) (h0 : 0 < n0) (hn0 : n0 ≤ 10000000000) (hr : rr = 1 ∨ (pr rr ∧ ∀ i, i < c → Q i ≤ rr)) : ∃ (w : Nat) (Q' : Nat → Nat) (arr' : Nat → Int64), j_X12_layPrimes_69 N (lN rr) (nI c) arr = some (nI w, arr') ∧ w ≤ 34 ∧ MF w Q' n0 ∧ ∀ i, i < w → arr' i = lN (Q' i) := by
  have hrr0 : 0 < rr := by
    rcases Nat.eq_zero_or_pos rr with e | e
    · subst e; simp at hd; omega
    · exact e
  have hc : c ≤ 33 := few33 (fun i hi => (hQ i hi).1) hrr0 (Nat.le_of_eq hd) hn0
  have hrn : rr ≤ n0 := by rw [← hd]; exact Nat.le_mul_of_pos_left _ (prodf_pos (fun i hi => by have := (hQ i hi).1; omega))
  unfold j_X12_layPrimes_69
  rcases hr with rfl | ⟨hp, hl⟩
  · rw [if_pos (M_le 1 1 (by decide) (by decide))]
    rw [Nat.mul_one] at hd
    exact ⟨c, Q, arr, rfl, by omega, ⟨hQ, hm, hd⟩, hv⟩
  · have h2 := hp.1
    rw [if_neg (M_nle rr 1 (by omega) (by omega)), if_neg (L_in c 40 (by omega) (by omega))]
    simp only [xl]
    rw [nI_clamp (by omega), show nI c + (1 : Int32) = nI (c + 1) from nI_1 c]
    refine ⟨c + 1, fun i => if i = c then rr else Q i, _, rfl, by omega, ⟨fun i hi => ?_, fun i j h1 h3 => ?_, ?_⟩, fun i hi => ?_⟩
    · by_cases e : i = c
      · simp only [if_pos e]; exact hp
      · simp only [if_neg e]; exact hQ i (by omega)
    · by_cases e2 : j = c
      · by_cases e : i = c
        · simp only [if_pos e, if_pos e2]; exact Nat.le_refl _
        · simp only [if_neg e, if_pos e2]; exact hl i (by omega)
      · have e : i ≠ c := by omega
        simp only [if_neg e, if_neg e2]; exact hm i j h1 (by omega)
    · rw [prodf, if_pos rfl, ← hd]
      congr 1
      exact prodf_cong (fun i hi => by simp only [if_neg (Nat.ne_of_lt hi)])
    · by_cases e : i = c
      · subst e; simp only [if_true]; exact pk_uLs
      · simp only [if_neg e]; rw [pk_uLn e]; exact hv i (by omega)
theorem layPrimes_f (N : Nat) (hN : 2 ^ 40 ≤ N) {n0 : Nat} (h0 : 0 < n0) (hn0 : n0 ≤ 10000000000) (pm : Int32) (arr0 : Nat → Int64) : ∃ (w : Nat) (Q' : Nat → Nat) (arr' : Nat → Int64), f_X12_layPrimes N (lN n0) pm arr0 = some (nI w, arr') ∧ w ≤ 34 ∧ MF w Q' n0 ∧ ∀ i, i < w → arr' i = lN (Q' i) := by
  unfold f_X12_layPrimes l_X12_layPrimes_12
  refine lp_post (I := fun z => ∃ (rr p c : Nat) (Q : Nat → Nat), z.1 = lN rr ∧ z.2.1 = lN p ∧ z.2.2.1 = nI c ∧ 2 ≤ p ∧ p ≤ 100001 ∧ (∀ i, i < c → pr (Q i) ∧ Q i < p) ∧ (∀ i j, i ≤ j → j < c → Q i ≤ Q j) ∧ (∀ i, i < c → z.2.2.2 i = lN (Q i)) ∧ prodf Q c * rr = n0 ∧ ∀ q, pr q → q ∣ rr → p ≤ q) (μ := fun z => 200000 - z.2.1.toInt.toNat) (post := fun r => ∃ (w : Nat) (Q' : Nat → Nat) (arr' : Nat → Int64), r = some (nI w, arr') ∧ w ≤ 34 ∧ MF w Q' n0 ∧ ∀ i, i < w → arr' i = lN (Q' i)) ?_ N _ ?_ ?_
  · intro z K hI hK
    obtain ⟨z1, z2, z3, z4⟩ := z
    obtain ⟨rr, p, c, Q, e1, e2, e3, hp2, hpb, hQ, hm, hv, hd, hf⟩ := hI
    simp only at e1 e2 e3 hv
    subst e1; subst e2; subst e3
    have hrr0 : 0 < rr := by
      rcases Nat.eq_zero_or_pos rr with e | e
      · subst e; simp at hd; omega
      · exact e
    have hpos : 0 < prodf Q c := prodf_pos (fun i hi => by have := (hQ i hi).1.1; omega)
    have hrn : rr ≤ n0 := by rw [← hd]; exact Nat.le_mul_of_pos_left _ hpos
    have hsq : p * p < 2 ^ 63 := Nat.lt_of_le_of_lt (Nat.mul_le_mul hpb hpb) (by decide)
    show ∃ w Q' arr', s_X12_layPrimes_12 N K (lN rr) (lN p) (nI c) z4 = some (nI w, arr') ∧ w ≤ 34 ∧ MF w Q' n0 ∧ ∀ i, i < w → arr' i = lN (Q' i)
    unfold s_X12_layPrimes_12
    rw [lN_mul]
    by_cases hs : rr < p * p
    · rw [if_pos (M_lt rr (p * p) hs hsq)]
      refine layPrimes_69 N (fun i hi => (hQ i hi).1) hm hv hd h0 hn0 ?_
      rcases one_or_pr hrr0 hf hs with h | h
      · exact Or.inl h
      · exact Or.inr ⟨h, fun i hi => by have := (hQ i hi).2; have := hf rr h (Nat.dvd_refl rr); omega⟩
    · rw [if_neg (M_nlt rr (p * p) (by omega) (by omega))]
      have hp5 : p ≤ 100000 := by
        rcases Nat.lt_or_ge 100000 p with q | q
        · exfalso
          have : 100001 * 100001 ≤ p * p := Nat.mul_le_mul q q
          omega
        · exact q
      -- the inner loop
      unfold l_X12_layPrimes_22
      refine lp_post (I := fun y => ∃ (r2 c2 : Nat) (Q2 : Nat → Nat), y.1 = lN r2 ∧ y.2.1 = nI c2 ∧ 0 < r2 ∧ (∀ i, i < c2 → pr (Q2 i) ∧ Q2 i ≤ p) ∧ (∀ i j, i ≤ j → j < c2 → Q2 i ≤ Q2 j) ∧ (∀ i, i < c2 → y.2.2 i = lN (Q2 i)) ∧ prodf Q2 c2 * r2 = n0 ∧ ∀ q, pr q → q ∣ r2 → p ≤ q) (μ := fun y => y.1.toInt.toNat) (post := fun r => ∃ (w : Nat) (Q' : Nat → Nat) (arr' : Nat → Int64), r = some (nI w, arr') ∧ w ≤ 34 ∧ MF w Q' n0 ∧ ∀ i, i < w → arr' i = lN (Q' i)) ?_ N _ ?_ ?_
      · intro y K2 hJ hK2
        obtain ⟨y1, y2, y3⟩ := y
        obtain ⟨r2, c2, Q2, f1, f2, hr0, hQ2, hm2, hv2, hd2, hf2⟩ := hJ
        simp only at f1 f2 hv2
        subst f1; subst f2
        have hpos2 : 0 < prodf Q2 c2 := prodf_pos (fun i hi => by have := (hQ2 i hi).1.1; omega)
        have hrn2 : r2 ≤ n0 := by rw [← hd2]; exact Nat.le_mul_of_pos_left _ hpos2
        have hc2 : c2 ≤ 33 := few33 (fun i hi => (hQ2 i hi).1.1) hr0 (Nat.le_of_eq hd2) hn0
        show ∃ w Q' arr', s_X12_layPrimes_22 N K (lN p) K2 (lN r2) (nI c2) y3 = some (nI w, arr') ∧ w ≤ 34 ∧ MF w Q' n0 ∧ ∀ i, i < w → arr' i = lN (Q' i)
        unfold s_X12_layPrimes_22
        rw [if_neg (M_ne p 0 (by omega) (by omega) (by decide))]
        by_cases hdv : r2 % p = 0
        · have hpd : p ∣ r2 := Nat.dvd_of_mod_eq_zero hdv
          have hpp : pr p := pr_least hp2 hpd (fun d hd1 hd3 => by
            obtain ⟨q, hq, hqd, -⟩ := pr_has hd1
            exact Nat.le_trans (hf2 q hq (Nat.dvd_trans hqd hd3)) (Nat.le_of_dvd (by omega) hqd))
          rw [if_pos ((M_rem (by omega) (by omega) (by omega)).mpr hdv), if_neg (L_in c2 40 (by omega) (by omega))]
          simp only [xl]
          rw [nI_clamp (by omega), show nI c2 + (1 : Int32) = nI (c2 + 1) from nI_1 c2, pk_lDiv (by omega) (by omega) (by omega)]
          obtain ⟨t, ht⟩ := hpd
          have hdiv : r2 / p = t := by rw [ht]; exact Nat.mul_div_cancel_left t (by omega)
          rw [hdiv]
          have ht0 : 0 < t := by
            rcases Nat.eq_zero_or_pos t with e | e
            · subst e; simp at ht; omega
            · exact e
          have htlt : t < r2 := by
            have : 2 * t ≤ p * t := Nat.mul_le_mul_right t hp2
            omega
          refine hK2 _ ⟨t, c2 + 1, fun i => if i = c2 then p else Q2 i, rfl, rfl, ht0, fun i hi => ?_, fun i j h1 h3 => ?_, fun i hi => ?_, ?_, fun q hq hqd => hf2 q hq (by rw [ht]; exact Nat.dvd_trans hqd (Nat.dvd_mul_left t p))⟩ ?_
          · by_cases e : i = c2
            · simp only [if_pos e]; exact ⟨hpp, Nat.le_refl p⟩
            · simp only [if_neg e]; exact hQ2 i (by omega)
          · by_cases e2 : j = c2
            · by_cases e : i = c2
              · simp only [if_pos e, if_pos e2]; exact Nat.le_refl _
              · simp only [if_neg e, if_pos e2]; exact (hQ2 i (by omega)).2
            · have e : i ≠ c2 := by omega
              simp only [if_neg e, if_neg e2]; exact hm2 i j h1 (by omega)
          · by_cases e : i = c2
            · subst e; simp only [if_true]; exact pk_uLs
            · simp only [if_neg e]
              show vp_updL y3 c2 (lN p) i = _
              rw [pk_uLn e]; exact hv2 i (by omega)
          · rw [prodf, if_pos rfl, prodf_cong (g := Q2) (fun i hi => by simp only [if_neg (Nat.ne_of_lt hi)]), Nat.mul_assoc, ← ht]; exact hd2
          · show (lN t).toInt.toNat < (lN r2).toInt.toNat
            rw [pk_lT (by omega), pk_lT (by omega)]
            omega
        · rw [if_neg (fun h => hdv ((M_rem (by omega) (by omega) (by omega)).mp h))]
          simp only [xl]
          rw [show lN p + (1 : Int64) = lN (p + 1) from lN_1 p]
          refine hK _ ⟨r2, p + 1, c2, Q2, rfl, rfl, rfl, by omega, by omega, fun i hi => ⟨(hQ2 i hi).1, by have := (hQ2 i hi).2; omega⟩, hm2, hv2, hd2, fun q hq hqd => ?_⟩ ?_
          · have h1 := hf2 q hq hqd
            rcases Nat.eq_or_lt_of_le h1 with e | e
            · subst e
              exact absurd (Nat.mod_eq_zero_of_dvd hqd) hdv
            · exact e
          · show 200000 - (lN (p + 1)).toInt.toNat < 200000 - (lN p).toInt.toNat
            rw [pk_lT (by omega), pk_lT (by omega)]
            omega
      · exact ⟨rr, c, Q, rfl, rfl, hrr0, fun i hi => ⟨(hQ i hi).1, by have := (hQ i hi).2; omega⟩, hm, hv, hd, hf⟩
      · show (lN rr).toInt.toNat < N
        rw [pk_lT (by omega)]
        have : (2 : Nat) ^ 40 = 1099511627776 := by decide
        omega
  · exact ⟨n0, 2, 0, fun _ => 0, rfl, rfl, rfl, by omega, by omega, fun i hi => by omega, fun i j _ h => by omega, fun i hi => by omega, by simp [prodf], fun q hq _ => hq.1⟩
  · show 200000 - (2 : Int64).toInt.toNat < N
    have : (2 : Nat) ^ 40 = 1099511627776 := by decide
    omega
theorem gs_add (c : Nat) : ∀ k, gs c (k + 1) = gs c k + c ^ (k + 1)
  | 0 => by simp [gs]; omega
  | k + 1 => by
    have h := gs_add c k
    have e : gs c (k + 1) = c * gs c k + 1 := rfl
    have h2 : c * gs c (k + 1) = c * gs c k + c * c ^ (k + 1) := by rw [h, Nat.mul_add]
    show c * gs c (k + 1) + 1 = gs c (k + 1) + c ^ (k + 1 + 1)
    rw [Nat.pow_succ c (k + 1), Nat.mul_comm (c ^ (k + 1)) c, h2, e]
    omega
theorem prodf_run {Q : Nat → Nat} {k p : Nat} : ∀ e, (∀ i, k ≤ i → i < k + e → Q i = p) → prodf Q (k + e) = prodf Q k * p ^ e
  | 0, _ => by simp
  | e + 1, h => by
    rw [show k + (e + 1) = (k + e) + 1 by omega, prodf, prodf_run e (fun i h1 h2 => h i h1 (by omega)), h (k + e) (by omega) (by omega), Nat.pow_succ, Nat.mul_assoc]
/-- the sum that the reference makes of a list of primes -/
def mS (ap n : Nat) : Nat := if ap = 0 then sg n else un n
theorem mS_run {ap p m e : Nat} (hp : pr p) (hm : ¬ p ∣ m) (hm0 : 0 < m) (he : 1 ≤ e) : mS ap (m * p ^ e) = mS ap m * (if ap = 0 then gs p e else 1 + p ^ e) := by
  obtain ⟨k, rfl⟩ : ∃ k, e = k + 1 := ⟨e - 1, by omega⟩
  unfold mS
  by_cases h : ap = 0
  · simp only [if_pos h]
    rw [Nat.mul_comm m, sg_pow hp hm hm0, Nat.mul_comm]
  · simp only [if_neg h]
    rw [Nat.mul_comm m, un_pow hp hm hm0, Nat.mul_comm, Nat.add_comm 1]
theorem wholeSum_f (N : Nat) (hN : 2 ^ 40 ≤ N) {n0 ap : Nat} (hap : ap ≤ 1) (h0 : 0 < n0) (hn0 : n0 ≤ 10000000000) (pm : Int32) (arr0 : Nat → Int64) : ∃ (pm' : Int32) (arr' : Nat → Int64), f_X12_wholeSum N (lN n0) (nI ap) pm arr0 = some (lN (mS ap n0), pm', arr') := by
  obtain ⟨w, Q, arr, e, hw, ⟨hQ, hm, hpd⟩, hv⟩ := layPrimes_f N hN h0 hn0 pm arr0
  have h40 : (2 : Nat) ^ 40 = 1099511627776 := by decide
  unfold f_X12_wholeSum
  rw [e, ob]
  refine ⟨nI w, arr, ?_⟩
  unfold l_X12_wholeSum_11
  refine lp_eq _ (fun (z : Int64 × Int32) => ∃ k : Nat, z.1 = lN (mS ap (prodf Q k)) ∧ z.2 = nI k ∧ k ≤ w ∧ ∀ i, i < k → k < w → Q i < Q k) (fun z => w - z.2.toNatClampNeg) ?_ N _ ?_ ?_
  · intro z K hI hK
    obtain ⟨z1, z2⟩ := z
    obtain ⟨k, e1, e2, hk, hlt⟩ := hI
    simp only at e1 e2
    subst e1; subst e2
    show s_X12_wholeSum_11 N (nI ap) (nI w) arr K (lN (mS ap (prodf Q k))) (nI k) = _
    unfold s_X12_wholeSum_11
    by_cases hkw : k = w
    · rw [if_pos (L_le w k (by omega) (by omega)), hkw, hpd]
    rw [if_neg (L_nle w k (by omega) (by omega)), if_neg (L_in k 40 (by omega) (by omega))]
    simp only [xl]
    rw [nI_clamp (by omega), hv k (by omega)]
    have hpk := hQ k (by omega)
    have hfree : ¬ Q k ∣ prodf Q k := prodf_free hpk (fun i hi => ⟨hQ i (by omega), Nat.ne_of_lt (hlt i hi (by omega))⟩)
    have hpos : 0 < prodf Q k := prodf_pos (fun i hi => by have := (hQ i (by omega)).1; omega)
    have hQb : ∀ i, i < w → Q i < 2 ^ 63 := fun i hi => by
      have h1 : Q i ∣ n0 := by
        rw [← hpd]
        have : ∀ u, i < u → Q i ∣ prodf Q u := by
          intro u
          induction u with
          | zero => intro h; omega
          | succ u ih =>
            intro h
            rw [prodf]
            rcases Nat.eq_or_lt_of_le (Nat.le_of_lt_succ h) with r | r
            · subst r; exact Nat.dvd_mul_left _ _
            · exact Nat.dvd_trans (ih r) (Nat.dvd_mul_right _ _)
        exact this w hi
      have := Nat.le_of_dvd h0 h1
      omega
    unfold l_X12_wholeSum_35
    refine lp_eq _ (fun (y : Int32 × Int64 × Int64) => ∃ e : Nat, y.1 = nI (k + e) ∧ y.2.1 = lN (Q k ^ e) ∧ y.2.2 = lN (gs (Q k) e) ∧ k + e ≤ w ∧ ∀ i, k ≤ i → i < k + e → Q i = Q k) (fun y => w - y.1.toNatClampNeg) ?_ N _ ?_ ?_
    · intro y K2 hJ hK2
      obtain ⟨y1, y2, y3⟩ := y
      obtain ⟨e, f1, f2, f3, hew, hrun⟩ := hJ
      simp only at f1 f2 f3
      subst f1; subst f2; subst f3
      show s_X12_wholeSum_35 N K (nI ap) (lN (mS ap (prodf Q k))) (lN (Q k)) (nI w) arr K2 (nI (k + e)) (lN (Q k ^ e)) (lN (gs (Q k) e)) = _
      -- the end of a run
      have fin : 1 ≤ e → (k + e < w → Q k < Q (k + e)) → j_X12_wholeSum_77 N K (nI ap) (lN (mS ap (prodf Q k))) (nI (k + e)) (lN (Q k ^ e)) (lN (gs (Q k) e)) = some (lN (mS ap n0), nI w, arr) := by
        intro he hnx
        have hS := mS_run (ap := ap) hpk hfree hpos he
        unfold j_X12_wholeSum_77
        have hgo : ∀ i, i < k + e → k + e < w → Q i < Q (k + e) := fun i hi h => by
          rcases Nat.lt_or_ge i k with r | r
          · have := hlt i r (by omega); have := hnx h; omega
          · rw [hrun i r hi]; exact hnx h
        have hμ : w - (nI (k + e)).toNatClampNeg < w - (nI k).toNatClampNeg := by
          rw [nI_clamp (by omega), nI_clamp (by omega)]; omega
        by_cases h : ap = 0
        · rw [if_pos (by rw [h]; rfl)]
          simp only [xl]
          rw [lN_mul]
          refine hK _ ⟨k + e, ?_, rfl, hew, hgo⟩ hμ
          simp only [if_pos h] at hS
          rw [prodf_run e hrun, hS]
        · rw [if_neg (L_ne ap 0 h (by omega) (by decide))]
          simp only [xl]
          rw [show (1 : Int64) = lN 1 from rfl, lN_add, lN_mul]
          refine hK _ ⟨k + e, ?_, rfl, hew, hgo⟩ hμ
          simp only [if_neg h] at hS
          rw [prodf_run e hrun, hS]
      unfold s_X12_wholeSum_35
      by_cases hend : k + e = w
      · rw [if_pos (L_le w (k + e) (by omega) (by omega))]
        exact fin (by omega) (fun h => by omega)
      rw [if_neg (L_nle w (k + e) (by omega) (by omega)), if_neg (L_in (k + e) 40 (by omega) (by omega)), nI_clamp (by omega), hv (k + e) (by omega)]
      by_cases hq : Q (k + e) = Q k
      · rw [if_pos (by rw [hq])]
        simp only [xl]
        rw [lN_mul, ← Nat.pow_succ, lN_add, ← gs_add, show nI (k + e) + (1 : Int32) = nI (k + e + 1) from nI_1 _]
        refine hK2 _ ⟨e + 1, rfl, rfl, rfl, by omega, fun i h1 h2 => ?_⟩ ?_
        · rcases Nat.lt_or_ge i (k + e) with r | r
          · exact hrun i h1 r
          · rw [show i = k + e by omega]; exact hq
        · show w - (nI (k + e + 1)).toNatClampNeg < w - (nI (k + e)).toNatClampNeg
          rw [nI_clamp (by omega), nI_clamp (by omega)]; omega
      · rw [if_neg (M_ne (Q (k + e)) (Q k) hq (hQb _ (by omega)) (hQb _ (by omega)))]
        have he : 1 ≤ e := by
          rcases Nat.eq_zero_or_pos e with r | r
          · subst r; exact absurd rfl hq
          · exact r
        refine fin he (fun h => ?_)
        have := hm k (k + e) (by omega) h
        omega
    · exact ⟨0, rfl, rfl, rfl, by omega, fun i h1 h2 => by omega⟩
    · show w - (nI k).toNatClampNeg < N
      omega
  · exact ⟨0, by simp [prodf, mS, sg_1, un_1]; rfl, rfl, by omega, fun i h => by omega⟩
  · show w - (0 : Int32).toNatClampNeg < N
    omega
theorem sumOf_f (N : Nat) (hN : 2 ^ 40 ≤ N) {n k : Nat} (hk : k ≤ 3) (h0 : 0 < n) (hn : n ≤ 10000000000) (pm : Int32) (arr : Nat → Int64) : ∃ (pm' : Int32) (arr' : Nat → Int64), f_X12_sumOf N (nI k) (lN n) pm arr = some (smK k n, pm', arr') := by
  unfold f_X12_sumOf
  by_cases h1 : n = 1
  · subst h1
    rw [if_pos (show lN 1 = (1 : Int64) from rfl)]
    by_cases hk0 : k = 0
    · subst hk0
      rw [if_pos (show nI 0 = (0 : Int32) from rfl)]
      exact ⟨pm, arr, by simp [smK, sg_1]; rfl⟩
    · rw [if_neg (L_ne k 0 hk0 (by omega) (by decide))]
      refine ⟨pm, arr, ?_⟩
      rcases (show k = 1 ∨ k = 2 ∨ k = 3 by omega) with rfl | rfl | rfl <;> simp [smK, sg_1, un_1] <;> rfl
  · rw [if_neg (M_ne n 1 h1 (by omega) (by decide))]
    have go : ∀ ap, ap ≤ 1 → (ap = 1 ↔ k = 2) → ∃ (pm' : Int32) (arr' : Nat → Int64), j_X12_sumOf_28 N (nI k) (lN n) (nI ap) (lN n) pm arr = some (smK k n, pm', arr') := by
      intro ap hap hk2
      obtain ⟨pm', arr', e⟩ := wholeSum_f N hN hap h0 hn pm arr
      unfold j_X12_sumOf_28
      rw [e, ob]
      refine ⟨pm', arr', ?_⟩
      rcases (show k = 0 ∨ k = 1 ∨ k = 2 ∨ k = 3 by omega) with rfl | rfl | rfl | rfl
      · have : ap = 0 := by omega
        subst this
        rw [if_pos (show nI 0 = (0 : Int32) from rfl)]; simp [smK, mS]
      · have : ap = 0 := by omega
        subst this
        rw [if_neg (L_ne 1 0 (by decide) (by decide) (by decide)), if_neg (L_nle 3 1 (by decide) (by decide))]; simp [smK, mS]
      · have : ap = 1 := by omega
        subst this
        rw [if_neg (L_ne 2 0 (by decide) (by decide) (by decide)), if_neg (L_nle 3 2 (by decide) (by decide))]; simp [smK, mS]
      · have : ap = 0 := by omega
        subst this
        rw [if_neg (L_ne 3 0 (by decide) (by decide) (by decide)), if_pos (L_le 3 3 (by decide) (by decide))]; simp [smK, mS, h1]
    by_cases hk2 : k = 2
    · subst hk2
      rw [if_pos (show nI 2 = (2 : Int32) from rfl)]
      exact go 1 (by decide) (by simp)
    · rw [if_neg (L_ne k 2 hk2 (by omega) (by decide))]
      exact go 0 (by decide) (by omega)
