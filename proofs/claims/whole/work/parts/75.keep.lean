/-! all powers of primes whose sum goes into m: kept, and no more than 400 -/
theorem mt_mil : mt p12 1000000 ≤ 300 := by decide +kernel
theorem tau_mil {n : Nat} (hn : 0 < n) (hb : n ≤ 1000000) : tau n ≤ 300 := by
  obtain ⟨u, P, E, hF⟩ := Fac_ex n hn
  have hu := hF.few (show n ≤ 10000000000 by omega)
  rw [hF.tau]
  refine Nat.le_trans (mt_ge p12 u P E 1000000 hu (fun i hi => ⟨hF.nth hu i hi, (p12_ct i (by omega)).2, (hF.1 i hi).2⟩) (by decide) ?_) mt_mil
  rw [hF.2.2]; exact hb
def evd (m : Nat) : Nat → Bool := fun d => decide (d ∣ m ∧ d % 2 = 0)
def odd (m : Nat) : Nat → Bool := fun d => decide (d ∣ m ∧ d % 2 = 1)
theorem eo_tau {m : Nat} (hm : 0 < m) (M : Nat) : fb_ct (evd m) (m + 1) + fb_ct (odd m) M ≤ tau m := by
  have h1 : fb_ct (odd m) M ≤ fb_ct (odd m) (m + 1) := by
    rcases Nat.le_total M (m + 1) with q | q
    · exact fb_ct_mono _ q
    · obtain ⟨e, rfl⟩ := Nat.exists_eq_add_of_le q
      rw [fb_ct_split]
      have : fb_ct (fun k => odd m (m + 1 + k)) e = 0 := fb_ct_zero.mpr (fun k _ => by
        unfold odd
        rw [decide_eq_false_iff_not]
        intro w
        have := Nat.le_of_dvd hm w.1
        omega)
      omega
  have h2 : fb_ct (fun k => evd m k || odd m k) (m + 1) = fb_ct (evd m) (m + 1) + fb_ct (odd m) (m + 1) := fb_ct_or (fun k _ w => by
    unfold evd odd at w
    simp only [decide_eq_true_eq] at w
    omega)
  have h3 : fb_ct (fun k => evd m k || odd m k) (m + 1) ≤ fb_ct (dvb m) (m + 1) := fb_ct_sub (fun k _ w => by
    rw [Bool.or_eq_true] at w
    unfold evd odd at w
    simp only [decide_eq_true_eq] at w
    rcases w with w | w <;> exact dvb_t.mpr w.1)
  rw [tau_ct]
  omega
def tq (q : Nat) : Nat := fb_ct (fun e => decide (3 ≤ e ∧ gs q e ≤ 1000000)) 22
def t3 (x : Nat) : Nat := fb_sm (fun q => if tq q = 0 then 0 else if prB q then tq q else 0) x
theorem t3_mil : t3 1001 ≤ 67 := by decide +kernel
theorem t3_le {x : Nat} (h : x ≤ 1001) : t3 x ≤ 67 := by
  obtain ⟨e, he⟩ := Nat.exists_eq_add_of_le h
  have := fb_sm_mono (fun q => if tq q = 0 then 0 else if prB q then tq q else 0) x e
  rw [← he] at this
  exact Nat.le_trans this t3_mil
theorem t3_s {p : Nat} (hp : prB p = true) : t3 (p + 1) = t3 p + tq p := by
  unfold t3
  rw [fb_sm_succ]
  by_cases c : tq p = 0
  · simp [c]
  · simp [c, hp]
theorem t3_mono {x y : Nat} (h : x ≤ y) : t3 x ≤ t3 y := by
  obtain ⟨e, rfl⟩ := Nat.exists_eq_add_of_le h
  exact fb_sm_mono _ x e
theorem gs_base {a b : Nat} (h : a ≤ b) : ∀ k, gs a k ≤ gs b k
  | 0 => Nat.le_refl _
  | k + 1 => by
    show a * gs a k + 1 ≤ b * gs b k + 1
    exact Nat.succ_le_succ (Nat.mul_le_mul h (gs_base h k))
theorem gs_lt (p : Nat) (hp : 2 ≤ p) (k : Nat) : gs p k < gs p (k + 1) := by
  rw [gs_add]
  have := Nat.pow_pos (n := k + 1) (show 0 < p by omega)
  omega
theorem gs_lt' (p : Nat) (hp : 2 ≤ p) (a : Nat) : ∀ d, gs p a ≤ gs p (a + d)
  | 0 => Nat.le_refl _
  | d + 1 => Nat.le_trans (gs_lt' p hp a d) (Nat.le_of_lt (gs_lt p hp (a + d)))
theorem gs_two (p : Nat) : gs p 2 = p * p + p + 1 := by
  show p * (p * 1 + 1) + 1 = _
  rw [Nat.mul_one, Nat.mul_succ]
theorem gs_one (p : Nat) : gs p 1 = p + 1 := by
  show p * 1 + 1 = _
  rw [Nat.mul_one]
theorem gs_pow2 {p : Nat} (hp : 2 ≤ p) : ∀ k, 2 ^ k ≤ gs p k
  | 0 => Nat.le_refl _
  | k + 1 => by
    have := gs_pow2 hp k
    show 2 ^ (k + 1) ≤ p * gs p k + 1
    have h2 : 2 * 2 ^ k ≤ p * gs p k := Nat.mul_le_mul hp this
    rw [Nat.pow_succ]
    omega
theorem keepPrimes_f (N : Nat) (hN : 2 ^ 40 ≤ N) {al : Nat → Int32} (hT : PT 9592 al) {m : Nat} (hm0 : 0 < m) (hm : m ≤ 1000000) {u : Int32} {num : Int64} {P : Nat → Int64} {T : Nat → Int32} (hS : SpOK u num P T) {pk : Int32} {pn : Int64} {parts : Nat → Int64} (hP : PaOK pk pn parts) (ba po ps : Nat → Int64) : ∃ (u' : Int32) (num' : Int64) (pk' : Int32) (pn' : Int64) (c : Nat) (P' : Nat → Int64) (T' : Nat → Int32) (parts' ba' po' ps' : Nat → Int64) (B E : Nat → Nat), f_X9_keepPrimes N (lN m) u num pk pn (0 : Int32) 9592 al P T parts ba po ps = some (u', num', pk', pn', nI c, P', T', parts', ba', po', ps') ∧ SpOK u' num' P' T' ∧ PaOK pk' pn' parts' ∧ PwR m c B E ba' po' ps' ∧ c ≤ fb_ct (evd m) (m + 1) + 1 ∧ ∀ p e, cnP B E c p e = if e = 1 ∧ prB p = true ∧ (p + 1) ∣ m then 1 else 0 := by
  have h40 : (2 : Nat) ^ 40 = 1099511627776 := by decide
  have h30 : (2 : Nat) ^ 30 = 1073741824 := by decide
  have htau := tau_mil hm0 hm
  unfold f_X9_keepPrimes
  obtain ⟨w, P', T', s1, hw, hA⟩ := splitUp_f N (by omega) hT hS hm0 (show m ≤ 10000000000 by omega)
  rw [s1, ob]
  simp only
  rw [howManyParts_f N (by omega) hw hA, ob]
  unfold l_X9_keepPrimes_19
  refine lp_post (I := fun (z : Int32 × Int32 × Int64 × Int32 × (Nat → Int64) × (Nat → Int64) × (Nat → Int64) × (Nat → Int64)) => ∃ (i c : Nat) (B E : Nat → Nat), i ≤ tau m ∧ z.1 = nI i ∧ PaOK z.2.1 z.2.2.1 z.2.2.2.2.1 ∧ z.2.2.2.1 = nI c ∧ PwR m c B E z.2.2.2.2.2.1 z.2.2.2.2.2.2.1 z.2.2.2.2.2.2.2 ∧ (∀ p e, cnP B E c p e = if e = 1 ∧ prB p = true ∧ (p + 1) ∣ m ∧ fb_ct (dvb m) (p + 1) < i then 1 else 0) ∧ ∀ d, (d = m + 1 ∨ (d ∣ m ∧ i ≤ fb_ct (dvb m) d)) → c ≤ fb_ct (evd m) d + (if 3 < d then 1 else 0)) (μ := fun z => 400 - z.1.toNatClampNeg) (post := fun r => ∃ (u' : Int32) (num' : Int64) (pk' : Int32) (pn' : Int64) (c : Nat) (P' : Nat → Int64) (T' : Nat → Int32) (parts' ba' po' ps' : Nat → Int64) (B E : Nat → Nat), r = some (u', num', pk', pn', nI c, P', T', parts', ba', po', ps') ∧ SpOK u' num' P' T' ∧ PaOK pk' pn' parts' ∧ PwR m c B E ba' po' ps' ∧ c ≤ fb_ct (evd m) (m + 1) + 1 ∧ ∀ p e, cnP B E c p e = if e = 1 ∧ prB p = true ∧ (p + 1) ∣ m then 1 else 0) ?_ N _ ?_ ?_
  · intro z K hI hK
    obtain ⟨y1, y2, y3, y4, y5, y6, y7, y8⟩ := z
    obtain ⟨i, c, B, E, hi, e1, hPa, e2, hR, hc, hb⟩ := hI
    simp only at e1 hPa e2 hR
    subst e1
    subst e2
    have hct : c ≤ 302 := by
      have h1 := hb (m + 1) (Or.inl rfl)
      have h2 := eo_tau hm0 0
      have : (if 3 < m + 1 then 1 else 0) ≤ 1 := by split <;> omega
      omega
    show ∃ (u' : Int32) (num' : Int64) (pk' : Int32) (pn' : Int64) (c2 : Nat) (P2 : Nat → Int64) (T2 : Nat → Int32) (parts' ba' po' ps' : Nat → Int64) (B2 E2 : Nat → Nat), s_X9_keepPrimes_19 N (nI (tau m)) (nI w) (lN m) 9592 al P' T' K (nI i) y2 y3 (nI c) y5 y6 y7 y8 = some (u', num', pk', pn', nI c2, P2, T2, parts', ba', po', ps') ∧ _
    unfold s_X9_keepPrimes_19
    by_cases ce : tau m ≤ i
    · rw [if_pos (L_le (tau m) i ce (by omega))]
      refine ⟨nI w, lN m, y2, y3, c, P', T', y5, y6, y7, y8, B, E, rfl, ⟨w, m, rfl, rfl, hw, hm0, by omega, hA⟩, hPa, hR, ?_, fun p e => ?_⟩
      · have h1 := hb (m + 1) (Or.inl rfl)
        have : (if 3 < m + 1 then 1 else 0) ≤ 1 := by split <;> omega
        omega
      · rw [hc p e]
        by_cases q : e = 1 ∧ prB p = true ∧ (p + 1) ∣ m
        · rw [if_pos q, if_pos]
          refine ⟨q.1, q.2.1, q.2.2, ?_⟩
          have h1 := fb_ct_mono (dvb m) (show p + 1 + 1 ≤ m + 1 by have := Nat.le_of_dvd hm0 q.2.2; omega)
          rw [fb_ct_succ, if_pos (dvb_t.mpr q.2.2), ← tau_ct] at h1
          omega
        · rw [if_neg q, if_neg (fun v => q ⟨v.1, v.2.1, v.2.2.1⟩)]
    · rw [if_neg (L_nle (tau m) i (by omega) (by omega))]
      have r : i < fb_ct (dvb m) (m + 1) := by rw [← tau_ct]; omega
      obtain ⟨d, d1, d2, d3⟩ := fb_ct_kth r
      have hdm := dvb_t.mp d2
      have hd0 : 0 < d := Nat.pos_of_dvd_of_pos hdm hm0
      have ha : pAn m (nI i) (lN d) := ⟨fun e => absurd e (nI_nem (by omega)), fun j hj e => by
        have : i = j := (nI_eq (by omega) hj).mp e
        subst this
        exact ⟨fun x hx hr => by rw [fb_ct_kth_one d2 (dvb_t.mpr hx) (d3.trans hr.symm)], fun h4 => by omega⟩⟩
      obtain ⟨pa, q1, q2⟩ := partAt_f N hN hw hm0 (show m ≤ 10000000000 by omega) (show i < 2 ^ 31 by omega) hA hPa ha
      rw [q1, ob]
      simp only
      rw [show (1 : Int64) = lN 1 from rfl, lN_sub (show 1 ≤ d by omega), isPrime_f N hN hT (by omega), ob]
      simp only [ite01]
      have hPa2 : PaOK (nI (tau m)) (lN m) pa := Or.inr ⟨m, hm0, by omega, rfl, rfl, q2⟩
      have hμ : 400 - (nI (i + 1)).toNatClampNeg < 400 - (nI i).toNatClampNeg := by rw [nI_clamp (by omega), nI_clamp (by omega)]; omega
      have hcd := hb d (Or.inr ⟨hdm, by omega⟩)
      -- what comes later is greater
      have later : ∀ x, (x = m + 1 ∨ (x ∣ m ∧ i + 1 ≤ fb_ct (dvb m) x)) → d < x := by
        intro x hx
        rcases hx with hx | ⟨hx, hr⟩
        · omega
        · rcases Nat.lt_or_ge d x with v | v
          · exact v
          · exfalso
            have := fb_ct_mono (dvb m) v
            omega
      -- the rank of p + 1 is i just at p + 1 = d
      have rk : ∀ p, (p + 1) ∣ m → (fb_ct (dvb m) (p + 1) < i + 1 ↔ (fb_ct (dvb m) (p + 1) < i ∨ p + 1 = d)) := by
        intro p hp
        constructor
        · intro v
          rcases Nat.lt_or_ge (fb_ct (dvb m) (p + 1)) i with x | x
          · exact Or.inl x
          · exact Or.inr (fb_ct_kth_one (dvb_t.mpr hp) d2 (by omega))
        · intro v
          rcases v with v | v
          · omega
          · rw [v]; omega
      by_cases cp : prB (d - 1) = true
      · rw [if_neg (fun v => v cp)]
        have hprd := (prB_iff (d - 1)).mp cp
        have h2 := hprd.1
        obtain ⟨B', E', ba', po', ps', k1, k2, k3⟩ := keepPower_f N hN hm0 hm (by omega) hR hprd (Nat.le_refl 1) (by rw [gs_one, show d - 1 + 1 = d by omega]; exact hdm)
        rw [Nat.pow_one, gs_one, show d - 1 + 1 = d by omega] at k1
        rw [k1, ob, xl, nI_1]
        refine hK _ ⟨i + 1, c + 1, B', E', by omega, rfl, hPa2, rfl, k2, fun p e => ?_, fun x hx => ?_⟩ hμ
        · rw [k3 p e, hc p e]
          by_cases q : e = 1 ∧ prB p = true ∧ (p + 1) ∣ m
          · by_cases v : p + 1 = d
            · rw [if_neg (fun y => by have := y.2.2.2; rw [v] at this; omega), if_pos ⟨by omega, q.1⟩, if_pos ⟨q.1, q.2.1, q.2.2, (rk p q.2.2).mpr (Or.inr v)⟩]
            · rw [if_neg (show ¬ (p = d - 1 ∧ e = 1) from fun y => v (by omega)), Nat.add_zero]
              by_cases y : fb_ct (dvb m) (p + 1) < i
              · rw [if_pos ⟨q.1, q.2.1, q.2.2, y⟩, if_pos ⟨q.1, q.2.1, q.2.2, (rk p q.2.2).mpr (Or.inl y)⟩]
              · rw [if_neg (fun x => y x.2.2.2), if_neg (fun x => by rcases (rk p q.2.2).mp x.2.2.2 with z | z; exact y z; exact v z)]
          · have nq : ¬ (p = d - 1 ∧ e = 1) := by
              intro v
              apply q
              refine ⟨v.2, by rw [v.1]; exact cp, ?_⟩
              rw [v.1, show d - 1 + 1 = d by omega]
              exact hdm
            rw [if_neg (fun v => q ⟨v.1, v.2.1, v.2.2.1⟩), if_neg nq, if_neg (fun v => q ⟨v.1, v.2.1, v.2.2.1⟩)]
        · have hlx := later x hx
          have hm1 := fb_ct_mono (evd m) (show d + 1 ≤ x by omega)
          rw [fb_ct_succ] at hm1
          by_cases ev : d % 2 = 0
          · have : evd m d = true := by unfold evd; exact decide_eq_true ⟨hdm, ev⟩
            rw [if_pos this] at hm1
            by_cases v : 3 < d
            · rw [if_pos v] at hcd
              rw [if_pos (by omega)]
              omega
            · rw [if_neg v] at hcd
              omega
          · -- then d - 1 is 2
            have hd3 : d = 3 := by
              rcases hprd.2 2 (Nat.dvd_of_mod_eq_zero (by omega)) with v | v <;> omega
            rw [if_neg (by omega)] at hcd
            rw [if_pos (by omega)]
            omega
      · rw [if_pos cp, xl, nI_1]
        refine hK _ ⟨i + 1, c, B, E, by omega, rfl, hPa2, rfl, hR, fun p e => ?_, fun x hx => ?_⟩ hμ
        · rw [hc p e]
          by_cases q : e = 1 ∧ prB p = true ∧ (p + 1) ∣ m
          · have v : ¬ p + 1 = d := fun v => cp (by rw [show d - 1 = p by omega]; exact q.2.1)
            by_cases y : fb_ct (dvb m) (p + 1) < i
            · rw [if_pos ⟨q.1, q.2.1, q.2.2, y⟩, if_pos ⟨q.1, q.2.1, q.2.2, (rk p q.2.2).mpr (Or.inl y)⟩]
            · rw [if_neg (fun x => y x.2.2.2), if_neg (fun x => by rcases (rk p q.2.2).mp x.2.2.2 with z | z; exact y z; exact v z)]
          · rw [if_neg (fun v => q ⟨v.1, v.2.1, v.2.2.1⟩), if_neg (fun v => q ⟨v.1, v.2.1, v.2.2.1⟩)]
        · have hlx := later x hx
          have hm1 := fb_ct_mono (evd m) (show d ≤ x by omega)
          by_cases v : 3 < d
          · rw [if_pos v] at hcd
            rw [if_pos (by omega)]
            omega
          · rw [if_neg v] at hcd
            omega
  · refine ⟨0, 0, fun _ => 0, fun _ => 0, Nat.zero_le _, rfl, hP, rfl, ⟨fun k hk => absurd hk (Nat.not_lt_zero k), fun j k _ hk => absurd hk (Nat.not_lt_zero k)⟩, fun p e => ?_, fun d _ => Nat.zero_le _⟩
    rw [if_neg (fun q => by omega)]
    rfl
  · show 400 - _ < N
    omega

/-- which powers are kept when all primes below X are done, and of p those below e times -/
def kpt (m X p y u e : Nat) : Prop := prB u = true ∧ 1 ≤ e ∧ gs u e ∣ m ∧ (e = 1 ∨ u < X ∨ (u = p ∧ e < y))
theorem kp_in (N : Nat) (hN : 2 ^ 40 ≤ N) {m p C0 : Nat} (hm0 : 0 < m) (hm : m ≤ 1000000) (hp : pr p) (hp3 : p * p < m) (hC0 : C0 = fb_ct (evd m) (m + 1) + 1) (K : (Int32 × Int32 × (Nat → Int64) × (Nat → Int64) × (Nat → Int64)) → Option (Int32 × (Nat → Int64) × (Nat → Int64) × (Nat → Int64))) (k : Nat) (post : Option (Int32 × (Nat → Int64) × (Nat → Int64) × (Nat → Int64)) → Prop) (hK : ∀ (c : Nat) (B E : Nat → Nat) (ba po ps : Nat → Int64), PwR m c B E ba po ps → c ≤ C0 + fb_ct (odd m) (gs (p + 1) 2) + t3 (p + 1) → (∀ u e, (kpt m (p + 1) 0 0 u e → cnP B E c u e = 1) ∧ (¬ kpt m (p + 1) 0 0 u e → cnP B E c u e = 0)) → post (K (nI (k + 1), nI c, ba, po, ps))) {c : Nat} {B E : Nat → Nat} {ba po ps : Nat → Int64} (hR : PwR m c B E ba po ps) (hc : c ≤ C0 + fb_ct (odd m) (gs p 2) + t3 p) (hn : ∀ u e, (kpt m p 0 0 u e → cnP B E c u e = 1) ∧ (¬ kpt m p 0 0 u e → cnP B E c u e = 0)) : post (l_X9_keepPowers_60 N K (lN m) (nI k) (lN p) N (lN p, lN (1 + p), (2 : Int32), nI c, ba, po, ps)) := by
  have h40 : (2 : Nat) ^ 40 = 1099511627776 := by decide
  have htau := tau_mil hm0 hm
  have hp2 := hp.1
  have hpB := (prB_iff p).mpr hp
  have hp1000 : p < 1000 := by
    rcases Nat.lt_or_ge p 1000 with q | q
    · exact q
    · exfalso
      have : 1000 * 1000 ≤ p * p := Nat.mul_le_mul q q
      omega
  have ht3 : t3 (p + 1) ≤ 67 := t3_le (by omega)
  have ht3s := t3_s hpB
  have hg2 := gs_two p
  have hodd2 : gs p 2 % 2 = 1 := by
    rw [hg2]
    rcases Nat.mod_two_eq_zero_or_one p with q | q
    · have : (p * p) % 2 = 0 := by rw [Nat.mul_mod, q]
      omega
    · have : (p * p) % 2 = 1 := by rw [Nat.mul_mod, q]
      omega
  have hgs1 : gs p 2 + 1 ≤ gs (p + 1) 2 := by
    rw [gs_two, gs_two]
    have : p * p ≤ (p + 1) * (p + 1) := Nat.mul_le_mul (by omega) (by omega)
    omega
  have hoM := fb_ct_mono (odd m) hgs1
  unfold l_X9_keepPowers_60
  refine lp_post (I := fun (z : Int64 × Int64 × Int32 × Int32 × (Nat → Int64) × (Nat → Int64) × (Nat → Int64)) => ∃ (e c : Nat) (B E : Nat → Nat), 2 ≤ e ∧ e ≤ 22 ∧ z.1 = lN (p ^ (e - 1)) ∧ z.2.1 = lN (gs p (e - 1)) ∧ gs p (e - 2) < m ∧ z.2.2.1 = nI e ∧ z.2.2.2.1 = nI c ∧ PwR m c B E z.2.2.2.2.1 z.2.2.2.2.2.1 z.2.2.2.2.2.2 ∧ (c ≤ C0 + fb_ct (odd m) (if e = 2 then gs p 2 else gs p 2 + 1) + t3 p + fb_ct (fun x => decide (3 ≤ x ∧ gs p x ≤ 1000000)) e) ∧ ∀ u y, (kpt m p p e u y → cnP B E c u y = 1) ∧ (¬ kpt m p p e u y → cnP B E c u y = 0)) (μ := fun z => 100 - z.2.2.1.toNatClampNeg) (post := post) ?_ N _ ?_ ?_
  · intro z K2 hI hK2
    obtain ⟨y1, y2, y3, y4, y5, y6, y7⟩ := z
    obtain ⟨e, c, B, E, he2, he22, e1, e2, hsm, e3, e4, hR, hc, hn⟩ := hI
    simp only at e1 e2 e3 e4 hR
    subst e1
    subst e2
    subst e3
    subst e4
    show post (s_X9_keepPowers_60 N K (lN m) (nI k) (lN p) K2 (lN (p ^ (e - 1))) (lN (gs p (e - 1))) (nI e) (nI c) y5 y6 y7)
    unfold s_X9_keepPowers_60
    rw [if_neg (L_nle 64 e (by omega) (by decide))]
    obtain ⟨f, rfl⟩ : ∃ f, e = f + 2 := ⟨e - 2, by omega⟩
    have ef1 : f + 2 - 1 = f + 1 := by omega
    have ef2 : f + 2 - 2 = f := by omega
    have hsm : gs p f < m := hsm
    rw [ef1]
    -- sizes
    have hb1 : gs p (f + 1) ≤ 1000 * 1000000 + 1 := by
      show p * gs p f + 1 ≤ _
      have : p * gs p f ≤ 1000 * 1000000 := Nat.mul_le_mul (by omega) (by omega)
      omega
    have tqe : fb_ct (fun x => decide (3 ≤ x ∧ gs p x ≤ 1000000)) (f + 2) ≤ tq p := fb_ct_mono _ (by omega)
    have ho2 : fb_ct (odd m) (if f + 2 = 2 then gs p 2 else gs p 2 + 1) ≤ fb_ct (odd m) (gs (p + 1) 2) := fb_ct_mono _ (by split <;> omega)
    have hc308 : c ≤ 308 + 60 := by
      have := eo_tau hm0 (gs (p + 1) 2)
      omega
    by_cases cs : m ≤ gs p (f + 1)
    · rw [if_pos (M_le m _ cs (by omega)), xl, nI_1]
      refine hK c B E y5 y6 y7 hR (by omega) (fun u y => ?_)
      have : kpt m (p + 1) 0 0 u y ↔ kpt m p p (f + 2) u y := by
        unfold kpt
        constructor
        · rintro ⟨a, b, d, q⟩
          refine ⟨a, b, d, ?_⟩
          rcases q with q | q | q
          · exact Or.inl q
          · rcases Nat.lt_or_ge u p with v | v
            · exact Or.inr (Or.inl v)
            · right; right
              have : u = p := by omega
              subst this
              refine ⟨rfl, ?_⟩
              rcases Nat.lt_or_ge y (f + 2) with x | x
              · exact x
              · exfalso
                obtain ⟨t, rfl⟩ := Nat.exists_eq_add_of_le x
                have h1 := gs_lt' u hp2 (f + 2) t
                have h2 := gs_lt u hp2 (f + 1)
                have h2 : gs u (f + 1) < gs u (f + 2) := h2
                have h3 := Nat.le_of_dvd hm0 d
                omega
          · omega
        · rintro ⟨a, b, d, q⟩
          refine ⟨a, b, d, ?_⟩
          rcases q with q | q | q
          · exact Or.inl q
          · exact Or.inr (Or.inl (by omega))
          · exact Or.inr (Or.inl (by omega))
      exact ⟨fun w => (hn u y).1 (this.mp w), fun w => (hn u y).2 (fun v => w (this.mpr v))⟩
    · have hlt : gs p (f + 1) < m := by omega
      have hf20 : f + 2 ≤ 21 := by
        rcases Nat.lt_or_ge 21 (f + 2) with q | q
        · exfalso
          have h1 := gs_pow2 hp2 (f + 1)
          have h2 : 2 ^ 20 ≤ 2 ^ (f + 1) := Nat.pow_le_pow_right (by decide) (by omega)
          have h3 : (2 : Nat) ^ 20 = 1048576 := by decide
          omega
        · exact q
      have hg2b : gs p (f + 2) ≤ 1000 * 1000000 + 1 := by
        show p * gs p (f + 1) + 1 ≤ _
        have : p * gs p (f + 1) ≤ 1000 * 1000000 := Nat.mul_le_mul (by omega) (by omega)
        omega
      have hga : gs p (f + 2) = gs p (f + 1) + p ^ (f + 2) := gs_add p (f + 1)
      have hgl : gs p (f + 1) < gs p (f + 2) := gs_lt p hp2 (f + 1)
      have hg1 : 1 ≤ gs p (f + 1) := by
        have := gs_pow2 hp2 (f + 1)
        have := Nat.pow_pos (n := f + 1) (show 0 < 2 by decide)
        omega
      rw [if_neg (M_nle m (gs p (f + 1)) hlt (by omega)), lN_mul, show p ^ (f + 1) * p = p ^ (f + 2) from rfl, xl, lN_add, ← hga, xl, if_neg (M_nle (gs p (f + 2)) 1 (by omega) (by omega)), if_neg (M_ne (gs p (f + 2)) 0 (by omega) (by omega) (by decide))]
      have hμ : 100 - (nI (f + 2 + 1)).toNatClampNeg < 100 - (nI (f + 2)).toNatClampNeg := by rw [nI_clamp (by omega), nI_clamp (by omega)]; omega
      have ef3 : f + 2 + 1 - 1 = f + 2 := by omega
      have ef4 : f + 2 + 1 - 2 = f + 1 := by omega
      -- kept before the next
      have kstep : ∀ u y, kpt m p p (f + 2 + 1) u y ↔ (kpt m p p (f + 2) u y ∨ (u = p ∧ y = f + 2 ∧ gs p (f + 2) ∣ m)) := by
        intro u y
        unfold kpt
        constructor
        · rintro ⟨a, b, d, q⟩
          rcases q with q | q | q
          · exact Or.inl ⟨a, b, d, Or.inl q⟩
          · exact Or.inl ⟨a, b, d, Or.inr (Or.inl q)⟩
          · rcases Nat.lt_or_ge y (f + 2) with v | v
            · exact Or.inl ⟨a, b, d, Or.inr (Or.inr ⟨q.1, v⟩)⟩
            · right
              have hy : y = f + 2 := by omega
              refine ⟨q.1, hy, ?_⟩
              rw [← q.1, ← hy]; exact d
        · rintro (⟨a, b, d, q⟩ | ⟨h1, h2, h3⟩)
          · refine ⟨a, b, d, ?_⟩
            rcases q with q | q | q
            · exact Or.inl q
            · exact Or.inr (Or.inl q)
            · exact Or.inr (Or.inr ⟨q.1, by omega⟩)
          · subst h1
            subst h2
            exact ⟨hpB, by omega, h3, Or.inr (Or.inr ⟨rfl, by omega⟩)⟩
      have knew : ¬ kpt m p p (f + 2) p (f + 2) := by
        unfold kpt
        rintro ⟨_, _, _, q⟩
        omega
      have hct : fb_ct (fun x => decide (3 ≤ x ∧ gs p x ≤ 1000000)) (f + 2 + 1) = fb_ct (fun x => decide (3 ≤ x ∧ gs p x ≤ 1000000)) (f + 2) + (if decide (3 ≤ f + 2 ∧ gs p (f + 2) ≤ 1000000) = true then 1 else 0) := fb_ct_succ _ _
      by_cases dv : m % gs p (f + 2) = 0
      · have dvd := Nat.dvd_of_mod_eq_zero dv
        have hle := Nat.le_of_dvd hm0 dvd
        rw [if_pos ((M_rem (by omega) (by omega) (by omega)).mpr dv)]
        obtain ⟨B', E', ba', po', ps', k1, k2, k3⟩ := keepPower_f N hN hm0 hm (by omega) hR hp (show 1 ≤ f + 2 by omega) dvd
        rw [k1, ob, xl, nI_1]
        refine hK2 _ ⟨f + 2 + 1, c + 1, B', E', by omega, by omega, ?_, ?_, ?_, rfl, rfl, k2, ?_, fun u y => ?_⟩ hμ
        · show lN _ = lN _
          rw [ef3]
        · show lN _ = lN _
          rw [ef3]
        · rw [ef4]; exact hlt
        · rw [if_neg (by omega), hct]
          rcases Nat.eq_zero_or_pos f with q | q
          · subst q
            rw [if_pos (by omega)] at hc
            rw [fb_ct_succ]
            have : odd m (gs p 2) = true := by unfold odd; exact decide_eq_true ⟨dvd, hodd2⟩
            rw [if_pos this]
            omega
          · rw [if_neg (by omega)] at hc
            rw [if_pos (decide_eq_true ⟨by omega, by omega⟩)]
            omega
        · have kk := k3 u y
          by_cases v : u = p ∧ y = f + 2
          · rw [if_pos v] at kk
            obtain ⟨v1, v2⟩ := v
            subst v1
            subst v2
            have h0 := (hn u (f + 2)).2 knew
            exact ⟨fun _ => by omega, fun x => absurd ((kstep u (f + 2)).mpr (Or.inr ⟨rfl, rfl, dvd⟩)) x⟩
          · rw [if_neg v] at kk
            have : kpt m p p (f + 2 + 1) u y ↔ kpt m p p (f + 2) u y := by
              rw [kstep]
              constructor
              · rintro (x | ⟨x1, x2, _⟩)
                · exact x
                · exact absurd ⟨x1, x2⟩ v
              · exact Or.inl
            exact ⟨fun x => by rw [kk, (hn u y).1 (this.mp x)], fun x => by rw [kk, (hn u y).2 (fun z => x (this.mpr z))]⟩
      · rw [if_neg (fun v => dv ((M_rem (by omega) (by omega) (by omega)).mp v)), xl, nI_1]
        refine hK2 _ ⟨f + 2 + 1, c, B, E, by omega, by omega, ?_, ?_, ?_, rfl, rfl, hR, ?_, fun u y => ?_⟩ hμ
        · show lN _ = lN _
          rw [ef3]
        · show lN _ = lN _
          rw [ef3]
        · rw [ef4]; exact hlt
        · rw [if_neg (by omega), hct]
          have hx : fb_ct (odd m) (if f + 2 = 2 then gs p 2 else gs p 2 + 1) ≤ fb_ct (odd m) (gs p 2 + 1) := fb_ct_mono _ (by split <;> omega)
          omega
        · have : kpt m p p (f + 2 + 1) u y ↔ kpt m p p (f + 2) u y := by
            rw [kstep]
            constructor
            · rintro (x | ⟨_, _, x⟩)
              · exact x
              · exact absurd (Nat.mod_eq_zero_of_dvd x) dv
            · exact Or.inl
          exact ⟨fun x => (hn u y).1 (this.mp x), fun x => (hn u y).2 (fun z => x (this.mpr z))⟩
  · refine ⟨2, c, B, E, Nat.le_refl 2, by decide, ?_, ?_, ?_, rfl, rfl, hR, ?_, fun u y => ?_⟩
    · show lN p = lN (p ^ 1)
      rw [Nat.pow_one]
    · show lN (1 + p) = lN (gs p 1)
      rw [gs_one, Nat.add_comm]
    · show 1 < m
      have : p * 1 ≤ p * p := Nat.mul_le_mul_left p (by omega)
      omega
    · rw [if_pos rfl]
      omega
    · have : kpt m p p 2 u y ↔ kpt m p 0 0 u y := by
        unfold kpt
        constructor
        · rintro ⟨a, b, d, q⟩
          refine ⟨a, b, d, ?_⟩
          rcases q with q | q | q
          · exact Or.inl q
          · exact Or.inr (Or.inl q)
          · exact Or.inl (by omega)
        · rintro ⟨a, b, d, q⟩
          refine ⟨a, b, d, ?_⟩
          rcases q with q | q | q
          · exact Or.inl q
          · exact Or.inr (Or.inl q)
          · omega
      exact ⟨fun x => (hn u y).1 (this.mp x), fun x => (hn u y).2 (fun z => x (this.mpr z))⟩
  · show 100 - _ < N
    omega
theorem keepPowers_f (N : Nat) (hN : 2 ^ 40 ≤ N) {al : Nat → Int32} (hT : PT 9592 al) {m : Nat} (hm0 : 0 < m) (hm : m ≤ 1000000) {c : Nat} {B E : Nat → Nat} {ba po ps : Nat → Int64} (hR : PwR m c B E ba po ps) (hc : c ≤ fb_ct (evd m) (m + 1) + 1) (hn : ∀ p e, cnP B E c p e = if e = 1 ∧ prB p = true ∧ (p + 1) ∣ m then 1 else 0) : ∃ (c' : Nat) (B' E' : Nat → Nat) (ba' po' ps' : Nat → Int64), f_X9_keepPowers N (lN m) (nI c) 9592 al ba po ps = some (nI c', ba', po', ps') ∧ c' ≤ 400 ∧ PwR m c' B' E' ba' po' ps' ∧ ∀ p e, pr p → 1 ≤ e → gs p e ∣ m → cnP B' E' c' p e = 1 := by
  have h40 : (2 : Nat) ^ 40 = 1099511627776 := by decide
  have htau := tau_mil hm0 hm
  obtain ⟨_, PL, cnt, h1, h2, h3, h4, h5, h6⟩ := hT
  unfold f_X9_keepPowers l_X9_keepPowers_11
  refine lp_post (I := fun (z : Int32 × Int32 × (Nat → Int64) × (Nat → Int64) × (Nat → Int64)) => ∃ (k c X : Nat) (B E : Nat → Nat), k ≤ 9592 ∧ z.1 = nI k ∧ z.2.1 = nI c ∧ PwR m c B E z.2.2.1 z.2.2.2.1 z.2.2.2.2 ∧ X ≤ 1000 ∧ (∀ j, j < k → j < cnt → PL j < X) ∧ (∀ j, k ≤ j → j < cnt → X ≤ PL j) ∧ c ≤ fb_ct (evd m) (m + 1) + 1 + fb_ct (odd m) (gs X 2) + t3 X ∧ ∀ u e, (kpt m X 0 0 u e → cnP B E c u e = 1) ∧ (¬ kpt m X 0 0 u e → cnP B E c u e = 0)) (μ := fun z => 10000 - z.1.toNatClampNeg) (post := fun r => ∃ (c' : Nat) (B' E' : Nat → Nat) (ba' po' ps' : Nat → Int64), r = some (nI c', ba', po', ps') ∧ c' ≤ 400 ∧ PwR m c' B' E' ba' po' ps' ∧ ∀ p e, pr p → 1 ≤ e → gs p e ∣ m → cnP B' E' c' p e = 1) ?_ N _ ?_ ?_
  · intro z K hI hK
    obtain ⟨y1, y2, y3, y4, y5⟩ := z
    obtain ⟨k, c, X, B, E, hk, e1, e2, hR, hX, hlo, hhi, hc, hn⟩ := hI
    simp only at e1 e2 hR
    subst e1
    subst e2
    show ∃ (c' : Nat) (B' E' : Nat → Nat) (ba' po' ps' : Nat → Int64), s_X9_keepPowers_11 N (lN m) 9592 al K (nI k) (nI c) y3 y4 y5 = some (nI c', ba', po', ps') ∧ c' ≤ 400 ∧ PwR m c' B' E' ba' po' ps' ∧ ∀ p e, pr p → 1 ≤ e → gs p e ∣ m → cnP B' E' c' p e = 1
    unfold s_X9_keepPowers_11
    have hc400 : c ≤ 400 := by
      have := eo_tau hm0 (gs X 2)
      have := t3_le (x := X) (by omega)
      omega
    -- the end: no prime is left that could give more
    have fin : (∀ q, pr q → q * q < m → q < X) → ∃ (c' : Nat) (B' E' : Nat → Nat) (ba' po' ps' : Nat → Int64), some (nI c, y3, y4, y5) = some (nI c', ba', po', ps') ∧ c' ≤ 400 ∧ PwR m c' B' E' ba' po' ps' ∧ ∀ p e, pr p → 1 ≤ e → gs p e ∣ m → cnP B' E' c' p e = 1 := by
      intro h
      refine ⟨c, B, E, y3, y4, y5, rfl, hc400, hR, fun p e hp he hd => (hn p e).1 ⟨(prB_iff p).mpr hp, he, hd, ?_⟩⟩
      rcases Nat.eq_or_lt_of_le he with q | q
      · exact Or.inl q.symm
      · right; left
        apply h p hp
        obtain ⟨t, rfl⟩ := Nat.exists_eq_add_of_le q
        have h1 := gs_lt' p hp.1 2 t
        have h1 : gs p 2 ≤ gs p (1 + 1 + t) := h1
        have h2 := gs_two p
        have h3 := Nat.le_of_dvd hm0 hd
        have h4 : gs p (Nat.succ 1 + t) = gs p (1 + 1 + t) := rfl
        omega
    have small : ∀ q, q * q < m → q < 100000 := by
      intro q hq
      rcases Nat.lt_or_ge q 100000 with w | w
      · exact w
      · exfalso
        have : 100000 * 100000 ≤ q * q := Nat.mul_le_mul w w
        omega
    by_cases c1 : 9592 ≤ k
    · rw [if_pos (L_le 9592 k c1 (by omega))]
      refine fin (fun q hq hqm => ?_)
      obtain ⟨j, hj, e⟩ := h6 q hq (small q hqm)
      rw [← e]; exact hlo j (by omega) hj
    · rw [if_neg (L_nle 9592 k (by omega) (by decide)), if_neg (L_in k 9592 (by omega) (by omega)), nI_clamp (by omega), h1 k (by omega), xl]
      rcases Nat.lt_or_ge k cnt with w | w
      · obtain ⟨p1, p2⟩ := h3 k w
        have hp2 := p1.1
        have hpp : PL k * PL k < 2 ^ 63 := Nat.lt_of_le_of_lt (Nat.mul_le_mul (Nat.le_of_lt p2) (Nat.le_of_lt p2)) (by decide)
        rw [nI_i64 (by omega), if_neg (M_nlt (PL k) 2 hp2 (by omega)), lN_mul]
        by_cases c2 : PL k * PL k < m
        · rw [if_pos (M_lt _ m c2 (by omega)), show (1 : Int64) = lN 1 from rfl, lN_add, xl]
          have hp1000 : PL k < 1000 := by
            rcases Nat.lt_or_ge (PL k) 1000 with q | q
            · exact q
            · exfalso
              have : 1000 * 1000 ≤ PL k * PL k := Nat.mul_le_mul q q
              omega
          have hXp := hhi k (Nat.le_refl k) w
          have eqv : ∀ u e, kpt m (PL k) 0 0 u e ↔ kpt m X 0 0 u e := by
            intro u e
            unfold kpt
            constructor
            · rintro ⟨a, b, d, q⟩
              refine ⟨a, b, d, ?_⟩
              rcases q with q | q | q
              · exact Or.inl q
              · right; left
                have hu := (prB_iff u).mp a
                obtain ⟨j, hj, ej⟩ := h6 u hu (by omega)
                rcases Nat.lt_or_ge j k with v | v
                · rw [← ej]; exact hlo j v hj
                · exfalso
                  rcases Nat.eq_or_lt_of_le v with x | x
                  · subst x; omega
                  · have := h4 k j x hj; omega
              · omega
            · rintro ⟨a, b, d, q⟩
              refine ⟨a, b, d, ?_⟩
              rcases q with q | q | q
              · exact Or.inl q
              · exact Or.inr (Or.inl (by omega))
              · omega
          refine kp_in N hN hm0 hm p1 c2 rfl K k (fun r => ∃ (c' : Nat) (B' E' : Nat → Nat) (ba' po' ps' : Nat → Int64), r = some (nI c', ba', po', ps') ∧ c' ≤ 400 ∧ PwR m c' B' E' ba' po' ps' ∧ ∀ p e, pr p → 1 ≤ e → gs p e ∣ m → cnP B' E' c' p e = 1) (fun c2 B2 E2 ba2 po2 ps2 r1 r2 r3 => ?_) hR ?_ (fun u e => ⟨fun x => (hn u e).1 ((eqv u e).mp x), fun x => (hn u e).2 (fun y => x ((eqv u e).mpr y))⟩)
          · refine hK _ ⟨k + 1, c2, PL k + 1, B2, E2, by omega, rfl, rfl, r1, by omega, fun j hj hjc => ?_, fun j hj hjc => ?_, r2, r3⟩ ?_
            · rcases Nat.lt_or_ge j k with v | v
              · have := h4 j k v w; omega
              · have : j = k := by omega
                subst this; omega
            · have := h4 k j (by omega) hjc; omega
            · show 10000 - (nI (k + 1)).toNatClampNeg < 10000 - (nI k).toNatClampNeg
              rw [nI_clamp (by omega), nI_clamp (by omega)]; omega
          · have m1 := fb_ct_mono (odd m) (gs_base hXp 2)
            have m2 := t3_mono hXp
            omega
        · rw [if_neg (M_nlt (PL k * PL k) m (by omega) hpp)]
          refine fin (fun q hq hqm => ?_)
          obtain ⟨j, hj, e⟩ := h6 q hq (small q hqm)
          rcases Nat.lt_or_ge j k with v | v
          · rw [← e]; exact hlo j v hj
          · exfalso
            have hle : PL k ≤ PL j := by
              rcases Nat.eq_or_lt_of_le v with x | x
              · rw [x]; exact Nat.le_refl _
              · exact Nat.le_of_lt (h4 k j x hj)
            rw [e] at hle
            have : PL k * PL k ≤ q * q := Nat.mul_le_mul hle hle
            omega
      · rw [h5 k w (by omega), show (nI 0).toInt64 = lN 0 from rfl, if_pos (M_lt 0 2 (by decide) (by decide))]
        refine fin (fun q hq hqm => ?_)
        obtain ⟨j, hj, e⟩ := h6 q hq (small q hqm)
        rw [← e]; exact hlo j (by omega) hj
  · refine ⟨0, c, 0, B, E, by decide, rfl, rfl, hR, by decide, fun j hj => by omega, fun j _ _ => Nat.zero_le _, by omega, fun u e => ?_⟩
    rw [hn u e]
    unfold kpt
    constructor
    · rintro ⟨a, b, d, q⟩
      have he : e = 1 := by omega
      subst he
      rw [gs_one] at d
      rw [if_pos ⟨rfl, a, d⟩]
    · intro q
      rw [if_neg]
      rintro ⟨a, b, d⟩
      subst a
      exact q ⟨b, by omega, by rw [gs_one]; exact d, Or.inl rfl⟩
  · show 10000 - _ < N
    omega
